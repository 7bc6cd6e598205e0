/-! an hour of the class: payments, the turn, the whole -/
theorem evL_congr {g g' : Nat → Int32} : ∀ (pr : Pg) (st : List Int32), (∀ c, c ∈ pr → c.1 = 1 → g (ix c.2) = g' (ix c.2)) → evL pr g st = evL pr g' st
  | [], _, _ => rfl
  | c :: pr, st, h => by
    rw [evL_cons, evL_cons]
    have e : ev1 c g st = ev1 c g' st := by
      unfold ev1
      by_cases z : c.1 = 1
      · rw [h c List.mem_cons_self z]
      · simp only [if_neg z]
    rw [e]
    exact evL_congr pr _ (fun d hd => h d (List.mem_cons_of_mem _ hd))
theorem ev_congr {g g' : Nat → Int32} (pr : Pg) (h : ∀ c, c ∈ pr → c.1 = 1 → g (ix c.2) = g' (ix c.2)) : ev pr g = ev pr g' := by
  unfold ev
  rw [evL_congr pr [] h]
theorem wf_mem : ∀ (pr : Pg) (d : Nat), wf pr d → ∀ c, c ∈ pr → okC c
  | [], _, _, c, h => by cases h
  | x :: r, d, hw, c, h => by
    rcases List.mem_cons.mp h with e | e
    · rw [e]
      exact hw.1
    · exact wf_mem r _ hw.2.2.2.2 c e
def paysG (T : Tn) (s : St) (cd : (Nat → Int32) × (Nat → Int32)) : Nat → (Nat → Int32) × (Nat → Int32)
  | 0 => cd
  | i + 1 => (payF T s i (paysG T s cd i)).2
theorem paysG_F (T : Tn) (s : St) : ∀ i, paysG T s (s 4, s 5) i = paysF T s i
  | 0 => rfl
  | i + 1 => by
    show (payF T s i (paysG T s (s 4, s 5) i)).2 = (payF T s i (paysF T s i)).2
    rw [paysG_F T s i]
theorem paysG_okD {T : Tn} {s : St} {cd : (Nat → Int32) × (Nat → Int32)} (h : okD (tN T) cd.2) : ∀ i, okD (tN T) (paysG T s cd i).2
  | 0 => h
  | i + 1 => payF_okD (paysG_okD h i)
def CC (n : Nat) (cd : (Nat → Int32) × (Nat → Int32)) (σ : Mem) (u : Nat) : Prop := (∀ p, p < n → σ.1 (u + 4) p = cd.1 p) ∧ (∀ k, k < 36 → σ.1 (u + 5) k = cd.2 k)
theorem imax_clamp (a : Int32) : imax 0 (imin 240 a) = clampF a := by
  unfold imax imin clampF
  by_cases x : a < 0
  · have : a < 240 := Int32.lt_trans x (by decide)
    rw [if_pos this, if_neg (Int32.not_lt.mpr (Int32.le_of_lt x)), if_pos x]
  · rw [if_neg x]
    by_cases y : a < 240
    · rw [if_pos y, if_neg (Int32.not_lt.mpr (Int32.le_of_lt y))]
      by_cases z : 0 < a
      · rw [if_pos z]
      · rw [if_neg z]
        exact Int32.le_antisymm (Int32.not_lt.mp x) (Int32.not_lt.mp z)
    · rw [if_neg y, if_pos (by decide)]
      by_cases z : 240 < a
      · rw [if_pos z]
      · rw [if_neg z]
        exact Int32.le_antisymm (Int32.not_lt.mp y) (Int32.not_lt.mp z)
theorem cell_ok {a b : Nat} (σ : Mem) : X11_cell (nI a) (nI b) σ = some (nI (6 * a + b), σ) := by
  unfold X11_cell
  rw [show (6 : Int32) = nI 6 from rfl, ni_mul, ni_add, Nat.mul_comm]
theorem payment_ok {T : Tn} {s : St} {o t u : Nat} {σ : Mem} {x : Int32} {cd : (Nat → Int32) × (Nat → Int32)} (hT : okT T) (hS : okS T s) (hs : sep o t u) (h : CR T s σ t u) (hx : RollOk T s x) (hc : CC (tN T) cd σ u) (hD : okD (tN T) cd.2) {p : Nat} (hp : p < tN T) (hw : wts T s p = true) :
    Ok (X0_payment o t u x (nI p) σ) (fun r => r.1 = (payF T s p cd).1 ∧ CC (tN T) (payF T s p cd).2 r.2 u) := by
  have hn := hT.1
  have hs' := hs
  unfold sep at hs'
  have bi := ib_t (n := p) (k := 6) (by omega) (by omega)
  have ci := ni_cl (n := p) (by omega)
  obtain ⟨c, d⟩ := cd
  obtain ⟨w, hwn, ew⟩ := (hS.1 p hp).2.1
  obtain ⟨q, hq, hqi, e⟩ := wts_aim hS hp hw
  have hcell : (6 : Int32) * s 3 p + s 2 p = nI (6 * w + q) := by rw [ew, e, ni_cell]
  have hix : pix s p = 6 * w + q := by unfold pix; rw [hcell]; exact ni_cl (by omega)
  obtain ⟨⟨v, hv, ev'⟩, hdz⟩ := hD w q (by omega) (by omega)
  have ev2 : d (6 * w + q) = nI v := ev'
  have bc : ib (nI (6 * w + q)) 36 = true := ib_t (by omega) (by omega)
  have cc := ni_cl (n := 6 * w + q) (by omega)
  unfold X0_payment
  refine ok_pos bi (ok_bv (ok_pos bi ?_))
  rw [ci, (h.2.1 p hp).1, (h.2.1 p hp).2, ew, e]
  refine ok_bindE (cell_ok σ) (ok_bv (ok_pos bc (ok_bv ?_)))
  rw [cc]
  show Ok (if σ.1 (u + 5) (6 * w + q) = 0 then some (0, σ) else _) _
  rw [show σ.1 (u + 5) (6 * w + q) = nI v from (hc.2 _ (by omega)).trans ev2]
  refine ok_ite (fun z => ?_) (fun z => ?_)
  · refine ok_some ?_
    have : payF T s p (c, d) = (0, c, d) := by
      unfold payF
      rw [hix, if_pos (.inr (.inl (by show d (6 * w + q) = 0; rw [ev2]; exact z)))]
    rw [this]
    exact ⟨rfl, hc⟩
  · -- behind the formula
    have tail : ∀ (σ3 : Mem) (y : Int32), CC (tN T) (c, d) σ3 u → σ3.1 (t + 6) p = tR T 6 p → y = clampF (rawF T s (nI v) p) → Ok (X0_payment_165 o t u (nI p) (nI w) (nI (6 * w + q)) (nI v) y σ3) (fun r => r.1 = (payF T s p (c, d)).1 ∧ CC (tN T) (payF T s p (c, d)).2 r.2 u) := by
      intro σ3 y hc3 hpr hy
      have hlaw : imin y (nI v) = lawF T s (nI v) p := by
        unfold imin lawF
        rw [← hy]
      obtain ⟨l, hl, el⟩ := lawF_r T s p hv
      have h207 : ∀ (σ4 : Mem) (c' : Nat → Int32), CC (tN T) (c', d) σ4 u → Ok (X0_payment_207 o t u (nI (6 * w + q)) (nI v) (lawF T s (nI v) p) σ4) (fun r => r.1 = lawF T s (nI v) p ∧ CC (tN T) (c', upd d (6 * w + q) (d (6 * w + q) - lawF T s (nI v) p)) r.2 u) := by
        intro σ4 c' hc4
        unfold X0_payment_207
        refine ok_pos bc (ok_bv (ok_some ⟨rfl, fun q hq => ?_, fun k hk => ?_⟩))
        · show (sI σ4 (u + 5) _ _).1 (u + 4) q = c' q
          rw [sI_n (by omega)]
          exact hc4.1 q hq
        · show (sI σ4 (u + 5) _ _).1 (u + 5) k = upd d (6 * w + q) (d (6 * w + q) - lawF T s (nI v) p) k
          rw [sI_o, cc, ev2]
          unfold upd
          rw [hc4.2 k hk]
      unfold X0_payment_165
      refine ok_bv ?_
      rw [hlaw]
      by_cases hl0 : lawF T s (nI v) p = 0
      · have hpay : payF T s p (c, d) = (0, c, d) := by
          unfold payF
          rw [hix, if_pos (.inr (.inr (by show lawF T s (d (6 * w + q)) p = 0; rw [ev2]; exact hl0)))]
        refine ok_pos (by rw [hl0]; exact Int32.le_refl _) ?_
        rw [hpay]
        refine ok_mono (h207 σ3 c hc3) ?_
        rintro r ⟨r1, r2⟩
        refine ⟨r1.trans hl0, r2.1, fun k hk => ?_⟩
        rw [r2.2 k hk]
        show upd d (6 * w + q) (d (6 * w + q) - lawF T s (nI v) p) k = d k
        unfold upd
        rw [hl0, Int32.sub_zero]
        split
        · rename_i g
          rw [g]
        · rfl
      · have hgo : ¬ (wts T s p = false ∨ (c, d).2 (pix s p) = 0 ∨ lawF T s ((c, d).2 (pix s p)) p = 0) := by
          rw [hix]
          show ¬ (_ ∨ d (6 * w + q) = 0 ∨ lawF T s (d (6 * w + q)) p = 0)
          rw [ev2, hw]
          rintro (g | g | g)
          · cases g
          · exact z g
          · exact hl0 g
        refine ok_neg ?_ ?_
        · rw [el] at hl0 ⊢
          rw [show (0 : Int32) = nI 0 from rfl, ni_le (by omega) (by omega)]
          intro g
          exact hl0 (by rw [show l = 0 by omega]; rfl)
        · refine ok_ite (fun hself => ?_) (fun hself => ?_)
          · have hpay : payF T s p (c, d) = (lawF T s (nI v) p, c, upd d (6 * w + q) (d (6 * w + q) - lawF T s (nI v) p)) := by
              unfold payF
              rw [if_neg hgo, if_pos (by rw [ew]; exact hself), hix]
              show (lawF T s (d (6 * w + q)) p, c, upd d (6 * w + q) (d (6 * w + q) - lawF T s (d (6 * w + q)) p)) = _
              rw [ev2]
            rw [hpay]
            exact h207 σ3 c hc3
          · have hwp : w ≠ p := fun g => hself (by rw [g])
            have bw := ib_t (n := w) (k := 6) (by omega) (by omega)
            have cw := ni_cl (n := w) (by omega)
            refine ok_pos bi ?_
            rw [ci, hpr]
            unfold X0_takesPrice
            by_cases hpc : tR T 6 p ≤ c w
            · have hpay : payF T s p (c, d) = (lawF T s (nI v) p, upd (upd c w (c w - tR T 6 p)) p (c p + tR T 6 p), upd d (6 * w + q) (d (6 * w + q) - lawF T s (nI v) p)) := by
                unfold payF
                rw [if_neg hgo, if_neg (by rw [ew]; exact hself), if_neg (by rw [ew, show ix (nI w) = w from cw]; exact Int32.not_lt.mpr hpc), hix, ew, show ix (nI w) = w from cw]
                show (lawF T s (d (6 * w + q)) p, _, upd d (6 * w + q) (d (6 * w + q) - lawF T s (d (6 * w + q)) p)) = _
                rw [ev2]
              rw [if_pos bw, cw, hc3.1 w hwn, if_pos hpc, if_pos bw, if_pos bw, bv_eq, if_pos bi, if_pos bi, bv_eq, ci]
              refine ok_bindE rfl ?_
              rw [hpay]
              refine ok_neg (show ¬ (1 : Int32) = 0 by decide) (h207 _ _ ⟨fun q hq => ?_, fun k hk => ?_⟩)
              · show (sI (sI σ3 (u + 4) w (c w - tR T 6 p)) (u + 4) p _).1 (u + 4) q = upd (upd c w (c w - tR T 6 p)) p (c p + tR T 6 p) q
                unfold upd
                rw [sI_o, sI_o, sI_o, if_neg (Ne.symm hwp), hc3.1 p hp, hc3.1 q hq]
              · show (sI (sI σ3 (u + 4) w (c w - tR T 6 p)) (u + 4) p _).1 (u + 5) k = d k
                rw [sI_n (by omega), sI_n (by omega)]
                exact hc3.2 k hk
            · have hpay : payF T s p (c, d) = (0, c, d) := by
                unfold payF
                rw [if_neg hgo, if_neg (by rw [ew]; exact hself), if_pos (by rw [ew, show ix (nI w) = w from cw]; exact Int32.not_le.mp hpc)]
              rw [if_pos bw, cw, hc3.1 w hwn, if_neg hpc]
              refine ok_bindE rfl (ok_pos rfl (ok_some ?_))
              rw [hpay]
              exact ⟨rfl, hc3⟩
    refine ok_bv ?_
    have hP := h.1.2.2.2.1
    unfold CPf at hP
    cases eP : tP T 0 with
    | none =>
      rw [eP] at hP
      refine ok_pos hP (tail σ 60 hc (h.1.2.2.1 p hp).2.2.2.2.2 ?_)
      have : rawF T s (nI v) p = 60 := by unfold rawF; rw [eP]
      rw [this]
      decide
    | some pr =>
      rw [eP] at hP
      have hpr := okT_P hT eP
      refine ok_neg (by rw [show σ.1 (t + 9) 5 = 1 from hP.1]; decide) (ok_bv (ok_bv (ok_bv (ok_bv (ok_bv (ok_bv ?_))))))
      have hrest : ∀ b : Int32, (if s 3 p = nI p then 0 else 1) = b → ∀ σ5, Fr [o + 1] [] σ σ5 → σ5.1 (o + 1) 0 = nI v → σ5.1 (o + 1) 1 = s 0 5 → σ5.1 (o + 1) 2 = s 0 6 → σ5.1 (o + 1) 3 = (x >>> (18 &&& 31)) &&& 1 → σ5.1 (o + 1) 4 = (x >>> ((12 + nI p) &&& 31)) &&& 1 → σ5.1 (o + 1) 5 = (x >>> ((6 + nI p) &&& 31)) &&& 1 → Ok (X0_payment_141 o t u (X0_payment_165 o t u) (nI p) (nI w) (nI (6 * w + q)) (nI v) b 6 σ5) (fun r => r.1 = (payF T s p (c, d)).1 ∧ CC (tN T) (payF T s p (c, d)).2 r.2 u) := by
        intro b hb σ5 f5 k0 k1 k2 k3 k4 k5
        unfold X0_payment_141
        refine ok_pos (by decide) (ok_bv ?_)
        have f6 : Fr [o + 1] [] σ (sI σ5 (o + 1) (6 : Int32).toNatClampNeg b) := frI f5 (.head _)
        rw [show (6 : Int32).toNatClampNeg = 6 by decide] at f6 ⊢
        have hT6 : CT T t (sI σ5 (o + 1) 6 b) := h.1.keep (fun a h1 h2 _ _ _ => f6.ne (by simp; omega))
        have hP6 := hT6.2.2.2.1
        rw [eP] at hP6
        refine ok_bind (ok_fr (value_ok (g := fun k => (sI σ5 (o + 1) 6 b).1 (o + 1) k) hpr.1 hpr.2.1 hpr.2.2 hP6.2 (by omega) (fun k hk => rfl)) (fr_X2_value _ _ _ _ Fr.refl)) ?_
        rintro ⟨y, σ7⟩ ⟨hy, f7⟩
        have f7 : Fr [t + 9 + 3] [] (sI σ5 (o + 1) 6 b) σ7 := f7
        refine ok_bv ?_
        have hg : y = rawF T s (nI v) p := by
          have : rawF T s (nI v) p = ev pr (asks7 T s (nI v) p) := by unfold rawF; rw [eP]
          rw [this]
          refine Eq.trans hy (ev_congr pr (fun a ha h1 => ?_))
          have hok := wf_mem pr 0 hpr.1 a ha
          have hix7 : ∃ k, k < 7 ∧ a.2 = nI k := by
            rcases hok with g | g | g | g
            · rw [h1] at g; exact absurd g (by decide)
            · obtain ⟨k, hk, ek⟩ := ni_of g.2.1
              refine ⟨k, ?_, ek⟩
              have := g.2.2
              rw [ek, show (6 : Int32) = nI 6 from rfl, ni_le hk (by omega)] at this
              omega
            · rw [h1] at g; exact absurd g.1 (by decide)
            · rw [h1] at g; exact absurd g.1 (by decide)
          obtain ⟨k, hk, ek⟩ := hix7
          rw [ek, show ix (nI k) = k from ni_cl (by omega)]
          show (sI σ5 (o + 1) 6 b).1 (o + 1) k = _
          rw [sI_o]
          match k, hk with
          | 0, _ => exact k0
          | 1, _ => exact k1
          | 2, _ => exact k2
          | 3, _ =>
            have hW : asksW pr = true := by
              unfold asksW
              rw [List.any_eq_true]
              exact ⟨a, ha, by rw [h1, ek]; decide⟩
            refine Eq.trans k3 ?_
            rw [show (18 : Int32) = nI 18 from rfl, tb_shr x (by omega)]
            exact hx.2 pr eP hW ⟨p, hp, hw⟩
          | 4, _ =>
            refine Eq.trans k4 ?_
            rw [show (12 : Int32) + nI p = nI (12 + p) from ni_add 12 p, tb_shr x (by omega), (hx.1 p hp).2.2 hw]
            rfl
          | 5, _ =>
            refine Eq.trans k5 ?_
            rw [show (6 : Int32) + nI p = nI (6 + p) from ni_add 6 p, tb_shr x (by omega), (hx.1 p hp).2.1]
            rfl
          | 6, _ => exact hb.symm
        refine tail σ7 _ ⟨fun q hq => ?_, fun k hk => ?_⟩ ?_ (by rw [imax_clamp]; show clampF y = _; rw [hg])
        · show σ7.1 (u + 4) q = c q
          rw [f7.ne (by simp; omega), f6.ne (by simp; omega)]
          exact hc.1 q hq
        · show σ7.1 (u + 5) k = d k
          rw [f7.ne (by simp; omega), f6.ne (by simp; omega)]
          exact hc.2 k hk
        · show σ7.1 (t + 6) p = _
          rw [f7.ne (by simp), f6.ne (by simp; omega)]
          exact (h.1.2.2.1 p hp).2.2.2.2.2
      have f5 : Fr [o + 1] [] σ (sI (sI (sI (sI (sI (sI σ (o + 1) 0 (nI v)) (o + 1) 1 (s 0 5)) (o + 1) 2 (s 0 6)) (o + 1) 3 ((x >>> (18 &&& 31)) &&& 1)) (o + 1) 4 ((x >>> ((12 + nI p) &&& 31)) &&& 1)) (o + 1) 5 ((x >>> ((6 + nI p) &&& 31)) &&& 1)) := frI (frI (frI (frI (frI (frI Fr.refl (.head _)) (.head _)) (.head _)) (.head _)) (.head _)) (.head _)
      show Ok (if nI w = nI p then X0_payment_141 o t u (X0_payment_165 o t u) (nI p) (nI w) (nI (6 * w + q)) (nI v) 0 6 (sI (sI (sI (sI (sI (sI σ (o + 1) 0 (nI v)) (o + 1) 1 ((sI σ (o + 1) 0 (nI v)).1 u 5)) (o + 1) 2 ((sI (sI σ (o + 1) 0 (nI v)) (o + 1) 1 ((sI σ (o + 1) 0 (nI v)).1 u 5)).1 u 6)) (o + 1) 3 ((x >>> (18 &&& 31)) &&& 1)) (o + 1) 4 ((x >>> ((12 + nI p) &&& 31)) &&& 1)) (o + 1) 5 ((x >>> ((6 + nI p) &&& 31)) &&& 1)) else X0_payment_141 o t u (X0_payment_165 o t u) (nI p) (nI w) (nI (6 * w + q)) (nI v) 1 6 (sI (sI (sI (sI (sI (sI σ (o + 1) 0 (nI v)) (o + 1) 1 ((sI σ (o + 1) 0 (nI v)).1 u 5)) (o + 1) 2 ((sI (sI σ (o + 1) 0 (nI v)) (o + 1) 1 ((sI σ (o + 1) 0 (nI v)).1 u 5)).1 u 6)) (o + 1) 3 ((x >>> (18 &&& 31)) &&& 1)) (o + 1) 4 ((x >>> ((12 + nI p) &&& 31)) &&& 1)) (o + 1) 5 ((x >>> ((6 + nI p) &&& 31)) &&& 1))) _
      rw [sI_n (a := u) (o := o + 1) (by omega), sI_n (a := u) (o := o + 1) (by omega), sI_n (a := u) (o := o + 1) (by omega), h.2.2.1, h.2.2.2]
      have hall : ∀ b : Int32, (if s 3 p = nI p then 0 else 1) = b → Ok (X0_payment_141 o t u (X0_payment_165 o t u) (nI p) (nI w) (nI (6 * w + q)) (nI v) b 6 (sI (sI (sI (sI (sI (sI σ (o + 1) 0 (nI v)) (o + 1) 1 (s 0 5)) (o + 1) 2 (s 0 6)) (o + 1) 3 ((x >>> (18 &&& 31)) &&& 1)) (o + 1) 4 ((x >>> ((12 + nI p) &&& 31)) &&& 1)) (o + 1) 5 ((x >>> ((6 + nI p) &&& 31)) &&& 1))) (fun r => r.1 = (payF T s p (c, d)).1 ∧ CC (tN T) (payF T s p (c, d)).2 r.2 u) := by
        intro b hb
        refine hrest b hb _ f5 ?_ ?_ ?_ ?_ ?_ ?_
        · rw [sI_k (by decide), sI_k (by decide), sI_k (by decide), sI_k (by decide), sI_k (by decide), sI_e]
        · rw [sI_k (by decide), sI_k (by decide), sI_k (by decide), sI_k (by decide), sI_e]
        · rw [sI_k (by decide), sI_k (by decide), sI_k (by decide), sI_e]
        · rw [sI_k (by decide), sI_k (by decide), sI_e]
        · rw [sI_k (by decide), sI_e]
        · rw [sI_e]
      refine ok_ite (fun g => hall 0 (if_pos (by rw [ew]; exact g))) (fun g => hall 1 (if_neg (by rw [ew]; exact g)))
theorem settle_ok {T : Tn} {s : St} {o t u : Nat} {σ : Mem} {x : Int32} {cd : (Nat → Int32) × (Nat → Int32)} (hT : okT T) (hS : okS T s) (hs : sep o t u) (h : CR T s σ t u) (hx : RollOk T s x) (hc : CC (tN T) cd σ u) (hD : okD (tN T) cd.2) :
    Ok (X0_settle o t u x σ) (fun σ' => CC (tN T) (paysG T s cd (tN T)) σ' u ∧ ∀ p, p < tN T → σ'.1 (o + 3) p = (payF T s p (paysG T s cd p)).1) := by
  have hn := hT.1
  have hs' := hs
  unfold sep at hs'
  unfold X0_settle
  refine ok_bv ?_
  refine ok_loop0 (F := fun n i σ => X0_settle_3 o t u n x i σ) (N := tN T) (I := fun i σ' => Fr (L_X0_settle o t u) (K_X0_settle o t u) σ σ' ∧ CC (tN T) (paysG T s cd i) σ' u ∧ ∀ p, p < i → σ'.1 (o + 3) p = (payF T s p (paysG T s cd p)).1) 0 σ (by omega) (by omega) ⟨Fr.refl, hc, fun p hp => by omega⟩ ?_ ?_
  · rintro n i σ' hi ⟨hf, hI, hJ⟩ hk
    have hR : CR T s σ' t u := h.keep (fun a ha => Fr.ne hf (by simp [L_X0_settle]; omega))
    have bi := ib_t (n := i) (k := 6) (by omega) (by omega)
    have ci := ni_cl (n := i) (by omega)
    have h40 : ∀ (y : Int32) (σ2 : Mem), Fr (L_X0_settle o t u) (K_X0_settle o t u) σ σ2 → y = (payF T s i (paysG T s cd i)).1 → CC (tN T) (payF T s i (paysG T s cd i)).2 σ2 u → σ2.1 (o + 3) = σ'.1 (o + 3) → Ok (X0_settle_40 o t u (X0_settle_3 o t u n) x (nI i) y (nI i) σ2) (fun σ' => CC (tN T) (paysG T s cd (tN T)) σ' u ∧ ∀ p, p < tN T → σ'.1 (o + 3) p = (payF T s p (paysG T s cd p)).1) := by
      intro y σ2 f2 hy hc2 e3
      unfold X0_settle_40
      refine ok_pos bi (ok_bv (ok_bv ?_))
      rw [ci, ni_succ]
      refine hk _ ⟨frI f2 (by simp [L_X0_settle]), ⟨fun q hq => ?_, fun k hk => ?_⟩, fun p hp => ?_⟩
      · rw [sI_n (by omega)]
        exact hc2.1 q hq
      · rw [sI_n (by omega)]
        exact hc2.2 k hk
      · rw [sI_o, e3]
        by_cases z : p = i
        · rw [if_pos z, hy, z]
        · rw [if_neg z]
          exact hJ p (by omega)
    show Ok (X0_settle_3 o t u (n + 1) x (nI i) σ') _
    rw [X0_settle_3, hR.1.1]
    refine ok_neg (by rw [ni_le (by omega) (by omega)]; omega) ?_
    refine ok_bindE (isWaiting_ok x (by omega) σ') ?_
    show Ok (if tr (tb x i) = 0 then _ else _) _
    rw [(hx.1 i hi).1]
    refine ok_ite (fun z => ?_) (fun z => ?_)
    · rw [tr_ne] at z
      have hpay : payF T s i (paysG T s cd i) = (0, paysG T s cd i) := by unfold payF; rw [if_pos (.inl z)]
      exact h40 0 σ' hf (by rw [hpay]) (by rw [hpay]; exact hI) rfl
    · have z' : wts T s i = true := by rw [tr_ne] at z; simpa using z
      refine ok_bind (ok_fr (payment_ok hT hS hs hR hx hI (paysG_okD hD i) hi z') (fr_X0_payment _ _ _ _ _ _ Fr.refl)) ?_
      rintro ⟨y, σ2⟩ ⟨⟨a1, a2⟩, f2⟩
      have f2 : Fr (L_X0_payment o t u) (K_X0_payment o t u) σ' σ2 := f2
      exact h40 y σ2 (hf.trans (f2.mono (fun a ha => by simp [L_X0_payment, L_X0_settle] at ha ⊢; omega) (fun a ha => by simp [K_X0_payment] at ha))) a1 a2 (Fr.ne f2 (by simp [L_X0_payment]; omega))
  · rintro n σ' ⟨hf, hI, hJ⟩
    have hR : CR T s σ' t u := h.keep (fun a ha => Fr.ne hf (by simp [L_X0_settle]; omega))
    show Ok (X0_settle_3 o t u (n + 1) x (nI (tN T)) σ') _
    rw [X0_settle_3, hR.1.1]
    exact ok_pos (Int32.le_refl _) (ok_some ⟨hI, hJ⟩)
theorem addInt_ok {T : Tn} {o t u : Nat} {σ : Mem} {d : Nat → Int32} {date : Int32} (hT : okT T) (hs : sep o t u) (h : CT T t σ) (hd : ∀ k, k < 36 → σ.1 (u + 5) k = d k) (hD : okD (tN T) d) (hdt : σ.1 u 5 = date) {pr : Pg} (e : tP T 1 = some pr) :
    Ok (X0_addInterest o t u σ) (fun σ' => ∀ k, k < 36 → σ'.1 (u + 5) k = intF T date (d k)) := by
  have hn := hT.1
  have hs' := hs
  unfold sep at hs'
  have hpr := okT_P hT e
  have hi : ∀ o, intF T date o = if o = 0 then 0 else moreF (ev pr (fun k => if k = 0 then o else if k = 1 then date else 0)) o := fun o => by unfold intF; rw [e]
  unfold X0_addInterest
  refine ok_bind (ok_fr (fill_ok 0 σ (by omega)) (fr_J7_fill_53178 _ _ _ _ Fr.refl)) ?_
  rintro σ1 ⟨h1, f1⟩
  have f1 : Fr [o + 1] [] σ σ1 := f1
  refine ok_bv (ok_bv ?_)
  rw [f1.ne (a := u) (by simp; omega), hdt]
  have f2 : Fr [o + 1] [] σ (sI σ1 (o + 1) 1 date) := frI f1 (.head _)
  have a2 : ∀ k, 1 ≤ k → k < 7 → (sI σ1 (o + 1) 1 date).1 (o + 1) k = if k = 1 then date else 0 := fun k _ hk => by rw [sI_o, h1 k hk]
  generalize (sI σ1 (o + 1) 1 date) = σ2 at f2 a2
  refine ok_loop0 (F := fun n i σ => X0_addInterest_20 o t u n i σ) (N := 36) (I := fun i σ' => Fr [o + 1, u + 5, t + 17] [] σ σ' ∧ (∀ k, 1 ≤ k → k < 7 → σ'.1 (o + 1) k = if k = 1 then date else 0) ∧ (∀ k, k < i → σ'.1 (u + 5) k = intF T date (d k)) ∧ (∀ k, i ≤ k → k < 36 → σ'.1 (u + 5) k = d k)) 0 σ2 (by omega) (by omega) ⟨f2.mono (fun a ha => by simp at ha ⊢; omega) (fun a ha => by simp at ha), a2, fun k hk => by omega, fun k _ hk => by rw [f2.ne (by simp; omega)]; exact hd k hk⟩ ?_ ?_
  · rintro n i σ' hil ⟨hf, hA, hI, hJ⟩ hk
    have hf : Fr [o + 1, u + 5, t + 17] [] σ σ' := hf
    have bi := ib_t (n := i) (k := 36) (by omega) (by omega)
    have ci := ni_cl (n := i) (by omega)
    obtain ⟨v, hv, ev'⟩ := okD_k hD hil
    show Ok (X0_addInterest_20 o t u (n + 1) (nI i) σ') _
    rw [X0_addInterest_20]
    refine ok_neg (by rw [show (36 : Int32) = nI 36 from rfl, ni_le (by omega) (by omega)]; omega) (ok_pos bi (ok_bv ?_))
    rw [ci, hJ i (Nat.le_refl _) hil, ev']
    refine ok_ite (fun z => ?_) (fun z => ?_)
    · rw [show (0 : Int32) = nI 0 from rfl, ni_le (by omega) (by omega)] at z
      have hz : d i = 0 := by rw [ev', show v = 0 by omega]; rfl
      refine ok_bv ?_
      rw [ni_succ]
      refine hk _ ⟨hf, hA, fun k hk' => ?_, fun k h1 h2 => hJ k (by omega) h2⟩
      by_cases y : k = i
      · rw [y, hJ i (Nat.le_refl _) hil, hi, hz]
        rfl
      · exact hI k (by omega)
    · have hz : ¬ d i = 0 := by
        intro g
        apply z
        rw [← ev', g]
        exact Int32.le_refl _
      refine ok_bv ?_
      have f3 : Fr [o + 1, u + 5, t + 17] [] σ (sI σ' (o + 1) 0 (nI v)) := frI hf (.head _)
      have hT3 : CT T t (sI σ' (o + 1) 0 (nI v)) := h.keep (fun a h1 h2 _ h4 _ => f3.ne (by simp; omega))
      have hP := hT3.2.2.2.2.1
      rw [e] at hP
      refine ok_bind (ok_fr (value_ok (g := fun k => if k = 0 then d i else if k = 1 then date else 0) hpr.1 hpr.2.1 hpr.2.2 hP.2 (by omega) (fun k hk7 => ?_)) (fr_X2_value _ _ _ _ Fr.refl)) ?_
      · rw [sI_o]
        by_cases y : k = 0
        · rw [if_pos y, if_pos y, ev']
        · rw [if_neg y, if_neg y]
          exact hA k (by omega) hk7
      · rintro ⟨m, σ4⟩ ⟨hm, f4⟩
        have hm : m = ev pr (fun k => if k = 0 then d i else if k = 1 then date else 0) := hm
        have f4 : Fr [t + 14 + 3] [] (sI σ' (o + 1) 0 (nI v)) σ4 := f4
        have f5 : Fr [o + 1, u + 5, t + 17] [] σ σ4 := f3.trans (f4.mono (fun a ha => by simp at ha ⊢; omega) (fun a ha => by simp at ha))
        have e5 : σ4.1 (u + 5) = σ'.1 (u + 5) := by
          rw [f4.ne (by simp; omega)]
          funext b
          rw [sI_n (by omega)]
        have eo : ∀ k, 1 ≤ k → σ4.1 (o + 1) k = σ'.1 (o + 1) k := fun k h1 => by
          rw [f4.ne (by simp; omega), sI_k (by omega)]
        have hint : intF T date (d i) = moreF m (nI v) := by rw [hi, if_neg hz, ← hm, ev']
        refine ok_bv ?_
        show Ok (if imax 0 m ≤ 9999 - nI v then X0_addInterest_94 o t u _ (nI i) (nI v + imax 0 m) (nI i) σ4 else _) _
        have hset : ∀ y, y = intF T date (d i) → Ok (X0_addInterest_94 o t u (X0_addInterest_95 o t u (X0_addInterest_20 o t u n)) (nI i) y (nI i) σ4) (fun σ' => ∀ k, k < 36 → σ'.1 (u + 5) k = intF T date (d k)) := by
          intro y hy
          unfold X0_addInterest_94 X0_addInterest_95
          refine ok_pos bi (ok_bv (ok_bv ?_))
          rw [ci, ni_succ]
          refine hk _ ⟨frI f5 (.tail _ (.head _)), fun k h1 h2 => ?_, fun k hk' => ?_, fun k h1 h2 => ?_⟩
          · rw [sI_n (by omega), eo k h1]
            exact hA k h1 h2
          · rw [sI_o, e5]
            by_cases w : k = i
            · rw [if_pos w, hy, w]
            · rw [if_neg w]
              exact hI k (by omega)
          · rw [sI_k (by omega), e5]
            exact hJ k (by omega) h2
        have hmax : imax 0 m = if m < 0 then 0 else m := by
          unfold imax
          by_cases y : m < 0
          · rw [if_pos y, if_neg (Int32.not_lt.mpr (Int32.le_of_lt y))]
          · rw [if_neg y]
            split
            · rfl
            · rename_i w
              exact Int32.le_antisymm (Int32.not_lt.mp y) (Int32.not_lt.mp w)
        rw [hmax]
        unfold moreF at hint
        by_cases y : m < 0
        · rw [if_pos y] at hint
          rw [if_pos y, Int32.add_zero]
          refine ok_pos ?_ (hset _ hint.symm)
          rw [show (9999 : Int32) = nI 9999 from rfl, show (0 : Int32) = nI 0 from rfl, ni_sub hv, ni_le (by omega) (by omega)]
          omega
        · rw [if_neg y] at hint
          rw [if_neg y]
          refine ok_ite (fun w => hset _ ?_) (fun w => hset _ ?_)
          · rw [if_neg (Int32.not_lt.mpr w)] at hint
            exact hint.symm
          · rw [if_pos (Int32.not_le.mp w)] at hint
            exact hint.symm
  · rintro n σ' ⟨hf, hA, hI, hJ⟩
    show Ok (X0_addInterest_20 o t u (n + 1) (nI 36) σ') _
    rw [X0_addInterest_20]
    exact ok_pos (Int32.le_refl _) (ok_some hI)
theorem turn48_ok {T : Tn} {o t u : Nat} {σ : Mem} {s : St} (hs : sep o t u) (hn : tN T ≤ 6) (h : CT T t σ) (hr : ∀ p, p < tN T → σ.1 (u + 2) p = s 2 p ∧ σ.1 (u + 3) p = s 3 p ∧ σ.1 (u + 4) p = s 4 p) (hd : ∀ k, k < 36 → σ.1 (u + 5) k = intF T (s 0 5) (s 5 k)) (hdt : σ.1 u 5 = s 0 5) (hpa : σ.1 u 7 = s 0 7 + 1) (hz : s 0 6 + 1 = nI (tD T)) :
    Ok (X0_turn_48 o t u σ) (fun σ' => CS T (turnF T s) σ' u) := by
  unfold sep at hs
  unfold X0_turn_48
  refine ok_pos (by decide) (ok_bv (ok_bv (ok_bv (ok_some ?_))))
  rw [show (0 : Int32).toNatClampNeg = 0 by decide, show (6 : Int32).toNatClampNeg = 6 by decide]
  have e : turnF T s = fun k j => if k = 0 then (if j = 5 then s 0 5 + 1 else if j = 6 then 0 else if j = 7 then s 0 7 + 1 else s 0 j) else if k = 1 then tR T 1 j else if k = 5 then intF T (s 0 5) (s 5 j) else s k j := by
    unfold turnF
    rw [if_pos hz]
  rw [e]
  refine ⟨fun p hp => ⟨?_, ?_, ?_, ?_⟩, fun k hk => ?_, ?_, ?_, ?_⟩
  · rw [sI_n (by omega), sI_n (by omega), sC_o, if_pos (by omega), Nat.zero_add, Nat.sub_zero]
    exact (h.2.2.1 p hp).1
  · rw [sI_n (by omega), sI_n (by omega), sC_n (by omega)]
    exact (hr p hp).1
  · rw [sI_n (by omega), sI_n (by omega), sC_n (by omega)]
    exact (hr p hp).2.1
  · rw [sI_n (by omega), sI_n (by omega), sC_n (by omega)]
    exact (hr p hp).2.2
  · rw [sI_n (by omega), sI_n (by omega), sC_n (by omega)]
    exact hd k hk
  · rw [sI_e, sI_k (by decide), sC_n (by omega), hdt]
    rfl
  · rw [sI_k (by decide), sI_e]
    rfl
  · rw [sI_k (by decide), sI_k (by decide), sC_n (by omega), hpa]
    rfl
theorem turn_ok {T : Tn} {o t u : Nat} {σ : Mem} {s : St} (hT : okT T) (hs : sep o t u) (h : CT T t σ) (hc : CS T s σ u) (hD : okD (tN T) (s 5)) (hh : ∃ k, k < tD T ∧ s 0 6 = nI k) :
    Ok (X0_turn o t u σ) (fun σ' => CS T (turnF T s) σ' u) := by
  have hs' := hs
  unfold sep at hs'
  obtain ⟨k, hk, ek⟩ := hh
  have h24 := hT.2.2.1
  unfold X0_turn
  refine ok_bv (ok_bv ?_)
  rw [sI_k (a := u) (k := 7) (b := 6) (by decide), hc.2.2.2.1, hc.2.2.2.2]
  have f2 : Fr [] [(u, 7), (u, 6)] σ (sI (sI σ u 7 (s 0 7 + 1)) u 6 (s 0 6 + 1)) := frIk (frIk Fr.refl (.inl (.head _))) (.inl (.tail _ (.head _)))
  have ne2 : ∀ a, a ≠ u → (sI (sI σ u 7 (s 0 7 + 1)) u 6 (s 0 6 + 1)).1 a = σ.1 a := fun a ha => by
    funext b
    rw [sI_n ha, sI_n ha]
  have e5 : (sI (sI σ u 7 (s 0 7 + 1)) u 6 (s 0 6 + 1)).1 u 5 = s 0 5 := by rw [sI_k (by decide), sI_k (by decide)]; exact hc.2.2.1
  have e6 : (sI (sI σ u 7 (s 0 7 + 1)) u 6 (s 0 6 + 1)).1 u 6 = s 0 6 + 1 := sI_e _ _ _ _
  have e7 : (sI (sI σ u 7 (s 0 7 + 1)) u 6 (s 0 6 + 1)).1 u 7 = s 0 7 + 1 := by rw [sI_k (by decide), sI_e]
  generalize (sI (sI σ u 7 (s 0 7 + 1)) u 6 (s 0 6 + 1)) = σ2 at *
  have h2 : CT T t σ2 := h.keep (fun a h1 h2 _ _ _ => ne2 a (by omega))
  rw [h2.2.1, e6]
  refine ok_ite (fun z => ?_) (fun z => ?_)
  · have hz : s 0 6 + 1 = nI (tD T) := by
      rw [ek, ni_succ] at z ⊢
      rw [ni_le (by omega) (by omega)] at z
      rw [show k + 1 = tD T by omega]
    have hP := h2.2.2.2.2.1
    unfold CPf at hP
    have hr2 : ∀ p, p < tN T → σ2.1 (u + 2) p = s 2 p ∧ σ2.1 (u + 3) p = s 3 p ∧ σ2.1 (u + 4) p = s 4 p := fun p hp => by
      rw [ne2 _ (by omega), ne2 _ (by omega), ne2 _ (by omega)]
      exact (hc.1 p hp).2
    have hd2 : ∀ k, k < 36 → σ2.1 (u + 5) k = s 5 k := fun k hk => by
      rw [ne2 _ (by omega)]
      exact hc.2.1 k hk
    cases e : tP T 1 with
    | none =>
      rw [e] at hP
      refine ok_pos hP (turn48_ok hs hT.1 h2 hr2 (fun k hk => ?_) e5 e7 hz)
      rw [hd2 k hk]
      unfold intF
      rw [e]
    | some pr =>
      rw [e] at hP
      refine ok_neg (by rw [show σ2.1 (t + 14) 5 = 1 from hP.1]; decide) ?_
      refine ok_bind (ok_fr (addInt_ok hT hs h2 hd2 hD e5 e) (fr_X0_addInterest _ _ _ _ Fr.refl)) ?_
      rintro σ3 ⟨hd3, f3⟩
      have f3 : Fr [o + 1, u + 5, t + 17] [] σ2 σ3 := f3
      refine turn48_ok hs hT.1 (h2.keep (fun a h1 h2 _ h4 _ => f3.ne (by simp; omega))) (fun p hp => ?_) hd3 ?_ ?_ hz
      · rw [f3.ne (by simp; omega), f3.ne (by simp; omega), f3.ne (by simp; omega)]
        exact hr2 p hp
      · rw [f3.ne (by simp; omega)]
        exact e5
      · rw [f3.ne (by simp; omega)]
        exact e7
  · have hz : ¬ s 0 6 + 1 = nI (tD T) := by
      intro g
      rw [g] at z
      exact z (Int32.le_refl _)
    have e : turnF T s = fun k j => if k = 0 then (if j = 6 then s 0 6 + 1 else if j = 7 then s 0 7 + 1 else s 0 j) else s k j := by
      unfold turnF
      rw [if_neg hz]
    rw [e]
    refine ok_some ⟨fun p hp => ?_, fun k hk => ?_, e5, e6, e7⟩
    · rw [ne2 _ (by omega), ne2 _ (by omega), ne2 _ (by omega), ne2 _ (by omega)]
      exact hc.1 p hp
    · rw [ne2 _ (by omega)]
      exact hc.2.1 k hk
theorem CS_CR {T : Tn} {t u : Nat} {σ : Mem} {s : St} (h : CT T t σ) (hc : CS T s σ u) : CR T s σ t u := ⟨h, fun p hp => ⟨(hc.1 p hp).2.1, (hc.1 p hp).2.2.1⟩, hc.2.2.1, hc.2.2.2.1⟩
/-- the whole hour of the class -/
theorem pass_ok {T : Tn} {o t u : Nat} {σ : Mem} {s : St} (hT : okT T) (hS : okS T s) (hs : sep o t u) (h : CT T t σ) (hc : CS T s σ u) :
    Ok (X0_pass o t u σ) (fun r => CT T t r.2 ∧ CS T (hourF T s) r.2 u ∧ RollOk T s r.1 ∧ (∀ q, q < tN T → r.2.1 (o + 2) q = nI (crw T s (nI q) (tN T))) ∧ ∀ p, p < tN T → r.2.1 (o + 3) p = paidF T s p) := by
  have hn := hT.1
  have hs' := hs
  unfold sep at hs'
  unfold X0_pass
  refine ok_bind (ok_fr (call_ok hT hS hs (CS_CR h hc) (fun p hp => (hc.1 p hp).1)) (fr_X0_call _ _ _ _ Fr.refl)) ?_
  rintro ⟨x, σ1⟩ ⟨⟨hx, hpl, hcr⟩, f1⟩
  have f1 : Fr [o + 1, o + 2, u + 1, t + 22] [] σ σ1 := f1
  have hR1 : CR T s σ1 t u := (CS_CR h hc).keep (fun a ha => f1.ne (by simp; omega))
  refine ok_bv ?_
  refine ok_bind (ok_fr (settle_ok hT hS hs hR1 hx (cd := (s 4, s 5)) ⟨fun p hp => ?_, fun k hk => ?_⟩ (okS_D hS)) (fr_X0_settle _ _ _ _ _ Fr.refl)) ?_
  · show σ1.1 (u + 4) p = s 4 p
    rw [f1.ne (by simp; omega)]
    exact (hc.1 p hp).2.2.2
  · show σ1.1 (u + 5) k = s 5 k
    rw [f1.ne (by simp; omega)]
    exact hc.2.1 k hk
  · rintro σ2 ⟨⟨hcc, hpd⟩, f2⟩
    have f2 : Fr (L_X0_settle o t u) [] σ1 σ2 := f2
    rw [paysG_F] at hcc
    have hT2 : CT T t σ2 := hR1.1.keep (fun a h1 h2 h3 h4 h5 => f2.ne (by simp [L_X0_settle]; omega))
    have hc2 : CS T (goF T s) σ2 u := by
      refine ⟨fun p hp => ⟨?_, ?_, ?_, ?_⟩, fun k hk => ?_, ?_, ?_, ?_⟩
      · rw [f2.ne (by simp [L_X0_settle]; omega)]
        exact hpl p hp
      · rw [f2.ne (by simp [L_X0_settle]; omega), f1.ne (by simp; omega)]
        exact (hc.1 p hp).2.1
      · rw [f2.ne (by simp [L_X0_settle]; omega), f1.ne (by simp; omega)]
        exact (hc.1 p hp).2.2.1
      · exact hcc.1 p hp
      · exact hcc.2 k hk
      · rw [f2.ne (by simp [L_X0_settle]; omega), f1.ne (by simp; omega)]
        exact hc.2.2.1
      · rw [f2.ne (by simp [L_X0_settle]; omega), f1.ne (by simp; omega)]
        exact hc.2.2.2.1
      · rw [f2.ne (by simp [L_X0_settle]; omega), f1.ne (by simp; omega)]
        exact hc.2.2.2.2
    refine ok_bind (ok_fr (turn_ok (o := o) hT hs hT2 hc2 (paysF_okD (okS_D hS) _) hS.2.2.1) (fr_X0_turn _ _ _ _ Fr.refl)) ?_
    rintro σ3 ⟨hc3, f3⟩
    have f3 : Fr [o + 1, u + 1, u + 5, t + 17] [(u, 5), (u, 6), (u, 7)] σ2 σ3 := f3
    have ne3 : ∀ a, a ≠ o + 1 → a ≠ u + 1 → a ≠ u + 5 → a ≠ t + 17 → a ≠ u → σ3.1 a = σ2.1 a := fun a h1 h2 h3 h4 h5 => by
      funext b
      exact f3.1 a b (by simp; omega) (by simp; omega)
    refine ok_some ⟨hT2.keep (fun a h1 h2 h3 h4 h5 => ne3 a (by omega) (by omega) (by omega) (by omega) (by omega)), hc3, hx, fun q hq => ?_, fun p hp => ?_⟩
    · show σ3.1 (o + 2) q = _
      rw [ne3 _ (by omega) (by omega) (by omega) (by omega) (by omega), f2.ne (by simp [L_X0_settle]; omega)]
      exact hcr q hq
    · show σ3.1 (o + 3) p = _
      rw [ne3 _ (by omega) (by omega) (by omega) (by omega) (by omega), hpd p hp, paysG_F]
      rfl
