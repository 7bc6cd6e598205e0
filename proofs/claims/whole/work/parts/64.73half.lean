/-! town: the town that is being read, on both sides -/
def FRel (u w : Nat) (P : Option Pg) (σ ρ : Mem) : Prop := match P with
  | none => σ.1 (u + 9 + 5 * w) 4 = 0 ∧ σ.1 (u + 9 + 5 * w) 5 = 0 ∧ σ.1 (u + 9 + 5 * w) 6 = 0 ∧ σ.1 (u + 9 + 5 * w) 7 = 0 ∧ ρ.1 1000 (49 + w) = 0 ∧ ∃ m, m ≤ 320 ∧ ρ.1 1005 w = nI m
  | some pr => okP pr ∧ σ.1 (u + 9 + 5 * w) 5 = 1 ∧ CO pr (u + 9 + 5 * w) σ ∧ ρ.1 1000 (49 + w) = 1 ∧ ρ.1 1005 w = nI pr.length ∧ ∀ i (h : i < pr.length), ρ.1 1003 (320 * w + i) = pr[i].1 ∧ ρ.1 1004 (320 * w + i) = pr[i].2
def PRow (u D p : Nat) (σ ρ : Mem) : Prop := (∀ j, 1 ≤ j → j ≤ 7 → σ.1 (u + j) p = ρ.1 (1011 + j) p) ∧ 0 ≤ σ.1 (u + 2) p ∧ σ.1 (u + 2) p < σ.1 (u + 3) p ∧ σ.1 (u + 3) p ≤ nI D ∧ 0 ≤ σ.1 (u + 6) p ∧ σ.1 (u + 6) p ≤ 99 ∧ 0 ≤ σ.1 (u + 7) p ∧ σ.1 (u + 7) p ≤ 999
def DRow (u N : Nat) (σ ρ : Mem) : Prop := ∀ i j, i < 6 → j < 6 → ∃ v, v ≤ 9999 ∧ σ.1 (u + 8) (6 * i + j) = nI v ∧ ρ.1 1019 (6 * i + j) = nI v ∧ ((N ≤ i ∨ N ≤ j ∨ i = j) → v = 0)
def HN (b : Nat → Nat) (k N : Nat) (ns ne : Nat → Nat) (σ ρ : Mem) : Prop := NmC b k N ns ne σ ∧ (∀ p, p < N → ρ.2 1002 p = pack (nmW b ns ne p)) ∧ ∀ p q, p < N → q < N → nmW b ns ne p = nmW b ns ne q → p = q
def HI (u N D db all : Nat) (σ ρ : Mem) : Prop := σ.1 2 3 = nI u ∧ (σ.1 u 12 = nI N ∧ ρ.1 1000 42 = nI N ∧ N ≤ 6) ∧ (σ.1 u 11 = nI D ∧ ρ.1 1000 44 = nI D ∧ 2 ≤ D ∧ D ≤ 24) ∧ (σ.1 u 13 = nI db ∧ ρ.1 1000 43 = nI db ∧ db ≤ 20) ∧ (σ.1 u 14 = nI all ∧ ρ.1 1000 21 = nI all ∧ all ≤ 80)
def HT (b : Nat → Nat) (k u N D db all : Nat) (ns ne : Nat → Nat) (F : Nat → Option Pg) (σ ρ : Mem) : Prop := HI u N D db all σ ρ ∧ (∀ p, p < N → PRow u D p σ ρ) ∧ DRow u N σ ρ ∧ HN b k N ns ne σ ρ ∧ ∀ w, w < 3 → FRel u w (F w) σ ρ
section Keeps
variable {b : Nat → Nat} {k u N D db all w p : Nat} {ns ne : Nat → Nat} {F : Nat → Option Pg} {P : Option Pg} {σ σ' ρ ρ' : Mem}
theorem PRow.keep (h : PRow u D p σ ρ) (hc : ∀ j, 1 ≤ j → j ≤ 7 → σ'.1 (u + j) p = σ.1 (u + j) p) (hm : ∀ j, 1 ≤ j → j ≤ 7 → ρ'.1 (1011 + j) p = ρ.1 (1011 + j) p) : PRow u D p σ' ρ' := by
  obtain ⟨h1, h2⟩ := h
  refine ⟨fun j g1 g2 => by rw [hc j g1 g2, hm j g1 g2]; exact h1 j g1 g2, ?_⟩
  rw [hc 2 (by omega) (by omega), hc 3 (by omega) (by omega), hc 6 (by omega) (by omega), hc 7 (by omega) (by omega)]
  exact h2
theorem DRow.keep (h : DRow u N σ ρ) (hc : ∀ c, σ'.1 (u + 8) c = σ.1 (u + 8) c) (hm : ∀ c, ρ'.1 1019 c = ρ.1 1019 c) : DRow u N σ' ρ' := fun i j hi hj => by
  rw [hc, hm]
  exact h i j hi hj
theorem HN.keep (h : HN b k N ns ne σ ρ) (hc : ∀ c, c < N → σ'.1 5 c = σ.1 5 c ∧ σ'.1 6 c = σ.1 6 c) (hl : ∀ c, c < N → ρ'.2 1002 c = ρ.2 1002 c) : HN b k N ns ne σ' ρ' := by
  refine ⟨fun p hp => ?_, fun p hp => ?_, h.2.2⟩
  · rw [(hc p hp).1, (hc p hp).2]
    exact h.1 p hp
  · rw [hl p hp]
    exact h.2.1 p hp
theorem FRel.keep (h : FRel u w P σ ρ) (hc : ∀ a c, u + 9 + 5 * w ≤ a → a ≤ u + 9 + 5 * w + 4 → σ'.1 a c = σ.1 a c) (h49 : ρ'.1 1000 (49 + w) = ρ.1 1000 (49 + w)) (h5 : ρ'.1 1005 w = ρ.1 1005 w) (h34 : ∀ c, 320 * w ≤ c → c < 320 * w + 320 → ρ'.1 1003 c = ρ.1 1003 c ∧ ρ'.1 1004 c = ρ.1 1004 c) : FRel u w P σ' ρ' := by
  unfold FRel at *
  cases P with
  | none =>
    show σ'.1 (u + 9 + 5 * w) 4 = 0 ∧ _
    rw [hc _ 4 (by omega) (by omega), hc _ 5 (by omega) (by omega), hc _ 6 (by omega) (by omega), hc _ 7 (by omega) (by omega), h49, h5]
    exact h
  | some pr =>
    obtain ⟨a1, a2, a3, a4, a5, a6⟩ := h
    refine ⟨a1, ?_, a3.keep (hc _ _ (by omega) (by omega)) (hc _ _ (by omega) (by omega)) (hc _ _ (by omega) (by omega)) (by funext c; exact hc _ _ (by omega) (by omega)) (by funext c; exact hc _ _ (by omega) (by omega)) (by funext c; exact hc _ _ (by omega) (by omega)), by rw [h49]; exact a4, by rw [h5]; exact a5, fun i hi => ?_⟩
    · rw [hc _ _ (by omega) (by omega)]
      exact a2
    · have := a1.2.2.1
      obtain ⟨e1, e2⟩ := h34 (320 * w + i) (by omega) (by omega)
      rw [e1, e2]
      exact a6 i hi
theorem HI.keep (h : HI u N D db all σ ρ) (h2 : σ'.1 2 3 = σ.1 2 3) (hc : ∀ c, 11 ≤ c → c ≤ 14 → σ'.1 u c = σ.1 u c) (hm : ∀ c, c = 21 ∨ c = 42 ∨ c = 43 ∨ c = 44 → ρ'.1 1000 c = ρ.1 1000 c) : HI u N D db all σ' ρ' := by
  unfold HI
  rw [h2, hc 12 (by omega) (by omega), hc 11 (by omega) (by omega), hc 13 (by omega) (by omega), hc 14 (by omega) (by omega), hm 21 (by omega), hm 42 (by omega), hm 43 (by omega), hm 44 (by omega)]
  exact h
theorem HT.keep (h : HT b k u N D db all ns ne F σ ρ) (ec : ∀ a c, a = 5 ∨ a = 6 ∨ (u ≤ a ∧ a ≤ u + 23) ∨ (a = 2 ∧ c = 3) → σ'.1 a c = σ.1 a c) (em : ∀ a c, (a = 1000 ∧ (c = 21 ∨ (42 ≤ c ∧ c ≤ 44) ∨ (49 ≤ c ∧ c ≤ 51))) ∨ a = 1003 ∨ a = 1004 ∨ a = 1005 ∨ (1012 ≤ a ∧ a ≤ 1019) → ρ'.1 a c = ρ.1 a c) (el : ρ'.2 1002 = ρ.2 1002) : HT b k u N D db all ns ne F σ' ρ' := by
  obtain ⟨h1, h2, h3, h4, h5⟩ := h
  refine ⟨h1.keep (ec _ _ (by omega)) (fun c g1 g2 => ec _ _ (by omega)) (fun c hc => em _ _ (by omega)), fun p hp => (h2 p hp).keep (fun j g1 g2 => ec _ _ (by omega)) (fun j g1 g2 => em _ _ (by omega)), h3.keep (fun c => ec _ _ (by omega)) (fun c => em _ _ (by omega)), h4.keep (fun c _ => ⟨ec _ _ (by omega), ec _ _ (by omega)⟩) (fun c _ => by rw [el]), fun w hw => (h5 w hw).keep (fun a c g1 g2 => ec _ _ (by omega)) (em _ _ (by omega)) (em _ _ (by omega)) (fun c g1 g2 => ⟨em _ _ (by omega), em _ _ (by omega)⟩)⟩
theorem HT.t (hu : 3 < u) (h : HT b k u N D db all ns ne F σ ρ) (fc : Fc σ σ') (fm : Fm ρ ρ') : HT b k u N D db all ns ne F σ' ρ' :=
  h.keep (fun a c g => fc.at a c (by omega) (by omega)) (fun a c g => fm.at a c (by omega) (by omega)) (fm.2 1002 (by decide))
end Keeps
def B5 (ρ : Mem) : Prop := ∀ w, w < 3 → ∃ m, m ≤ 320 ∧ ρ.1 1005 w = nI m
theorem HT.b5 {b : Nat → Nat} {k u N D db all : Nat} {ns ne : Nat → Nat} {F : Nat → Option Pg} {σ ρ : Mem} (h : HT b k u N D db all ns ne F σ ρ) : B5 ρ := fun w hw => by
  have := h.2.2.2.2 w hw
  unfold FRel at this
  cases hF : F w with
  | none =>
    rw [hF] at this
    exact this.2.2.2.2.2
  | some pr =>
    rw [hF] at this
    have h1 := this.1.2.2.1
    exact ⟨pr.length, by omega, this.2.2.2.2.1⟩
def FCu (u : Nat) (σ σ' : Mem) : Prop := ∀ a c, ¬ (a = 3 ∨ a = 5 ∨ a = 6 ∨ (u ≤ a ∧ a ≤ u + 23) ∨ (a = 2 ∧ 4 ≤ c ∧ c ≤ 6)) → σ'.1 a c = σ.1 a c
theorem FCu.refl {u : Nat} {σ : Mem} : FCu u σ σ := fun _ _ _ => rfl
theorem FCu.trans {u : Nat} {σ σ1 σ2 : Mem} (h : FCu u σ σ1) (g : FCu u σ1 σ2) : FCu u σ σ2 := fun a c q => (g a c q).trans (h a c q)
theorem FCu.t {u : Nat} {σ σ1 : Mem} (h : Fc σ σ1) : FCu u σ σ1 := fun a c q => h.at a c (by omega) (by omega)
theorem FCu.w {u o c : Nat} {v : Int32} {σ σ1 : Mem} (h : FCu u σ σ1) (ho : o = 5 ∨ o = 6 ∨ (u ≤ o ∧ o ≤ u + 23)) : FCu u σ (sI σ1 o c v) := fun a d q => by
  rw [sI_r, if_neg (by omega)]
  exact h a d q
def Good (b : Nat → Nat) (k u : Nat) (x : Tk) (σ ρ : Mem) : Prop := PT b k x σ ρ ∧ ∃ N D db all ns ne F, HT b k u N D db all ns ne F σ ρ
def Lin (b : Nat → Nat) (k u s : Nat) (σ σ' ρ' : Mem) : Prop := FCu u σ σ' ∧ ((∃ x', Good b k u x' σ' ρ' ∧ s < x'.2.1) ∨ (PX σ' ρ' ∧ B5 ρ'))
section Prs
variable {b : Nat → Nat} {k u N D db all : Nat} {ns ne : Nat → Nat} {F : Nat → Option Pg} {x : Tk} {σ ρ : Mem}
theorem person_in {σ1 ρ1 : Mem} {r : Int32} {x1 : Tk} (hb : TB b k) (hu : u = 7 ∨ u = 124) (hH : HT b k u N D db all ns ne F σ1 ρ1) (hP : PT b k x1 σ1 ρ1) (h3 : x1.1 = 3) : ∃ r, X5_personHere σ1 = some (r, σ1) ∧ X12_find ρ1 = some (r, ρ1) ∧ FoundAt N (nmW b ns ne) (wd b x1) r := by
  obtain ⟨⟨i1, i2, i3, i4, i5⟩, h2, h3', ⟨n1, n2, n3⟩, h5⟩ := hH
  obtain ⟨⟨r1, s1⟩, e1, q1, f1⟩ := here2_ok hb hu i1 i2.2.2 i2.1 n1 hP.1 (wd_Wd hP.2.2.1 h3) N 0 fu (by omega) (by unfold fu; omega) (fun p hp => by omega)
  obtain ⟨⟨r2, s2⟩, e2, q2, f2⟩ := find4_ok i2.2.2 i2.2.1 (wd_ltrs hP.2.2.1 h3) (hP.2.1.2.2.2.2.2 h3) (fun p hp => ⟨n2 p hp, nm_ltrs (n1 p hp).2.2⟩) N 0 fu (-1) (by omega) (by unfold fu; omega) (.inr ⟨rfl, fun p hp => by omega⟩)
  have q1 : s1 = σ1 := q1
  have q2 : s2 = ρ1 := q2
  subst q1
  subst q2
  have e : r1 = r2 := FoundAt.uniq n3 f1 f2
  subst e
  exact ⟨r1, e1, e2, f1⟩
theorem fin_px {σ' ρ' : Mem} {s : Nat} (hf : FCu u σ σ') (h : PX σ' ρ') (hb : B5 ρ') : Lin b k u s σ σ' ρ' := ⟨hf, .inr ⟨h, hb⟩⟩
theorem B5.t {ρ1 ρ2 : Mem} (h : B5 ρ1) (g : Fm ρ1 ρ2) : B5 ρ2 := fun w hw => by
  rw [g.at _ _ (by decide) (by omega)]
  exact h w hw
theorem p31X (h : ¬ ρ.1 1000 2 ≤ 0) : X12_readPerson_31 ρ = some ρ := by
  rw [readPerson31_eq, if_neg h]
theorem person_ok (hb : TB b k) (hu : u = 7 ∨ u = 124) (hH : HT b k u N D db all ns ne F σ ρ) (hP : PT b k x σ ρ) (hk : kindC b x = 101) (hN : N < 6) : Ok2 (X5_readPerson σ) (X12_readPerson ρ) (fun σ' ρ' => Lin b k u x.2.1 σ σ' ρ') := by
  have hu3 : 3 < u := by omega
  have hx3 := own_tok hP (i := 1) (by decide) hk
  obtain ⟨i1, i2, i3, i4, i5⟩ := hH.1
  rw [readPerson_eq, gT_u hu i1]
  unfold X12_readPerson
  refine o2_bvl ?_
  rw [i2.1]
  refine o2_pl ((ni_lt (a := N) (b := 6) (by omega) (by omega)).mpr hN) (o2_bind (t_next hb (by omega) hP) (fun σ1 ρ1 g => ?_))
  have hadv := adv hP (by omega)
  have hH1 := hH.t hu3 g.2.1 g.2.2
  have f1 : FCu u σ σ1 := .t g.2.1
  have hP1 := g.1
  generalize nxt b k x.2.2 = x1 at *
  have stopX : ∀ v : Nat, 0 < v → v ≤ 5 → Ok2 (((X5_fail (nI v) σ1).bind fun σ7 => some σ7).bind fun σ4 => pRest (nI N) σ4) ((X12_wrong (nI v) ρ1).bind fun σ5 => X12_readPerson_31 σ5) (fun σ' ρ' => Lin b k u x.2.1 σ σ' ρ') := fun v h0 h5 => by
    rw [Option.bind_assoc]
    refine o2_bind (t_fail h0 h5 hP1) (fun σ2 ρ2 q => ?_)
    rw [Option.bind_some, p31X q.1.neM.2]
    obtain ⟨σ3, e3, f3⟩ := pRestX hu hN ((q.2.1.at 2 3 (by decide) (by omega)).trans hH1.1.1) q.1.neC
    have n2 : ¬ 2 ∈ LCu u := fun e => by have := not_LCu e; omega
    refine ⟨σ3, ρ2, e3, rfl, fin_px ((f1.trans (.t q.2.1)).trans (fun a c hh => f3.1 a c (fun e => hh (by have := not_LCu e; omega)) (by simp))) (q.1.cong (f3.1 2 5 n2 (by simp)) (f3.1 2 6 n2 (by simp)) rfl rfl) (hH1.b5.t q.2.2)⟩
  refine o2_r (isNameM_ok hP1.2.2.1 hP1.2.1) ?_
  unfold X5_readNewName
  rw [isAt_ok hP1.2.2.2.1, Option.bind_some, hP1.1.2.2.2.1]
  by_cases z : kindC b x1 = 3
  · have h3 := ((kindC_name hP1.2.2.1).mp z).1
    rw [decide_eq_true z]
    obtain ⟨r, er1, er2, hf⟩ := person_in (r := 0) hb hu hH1 hP1 h3
    rw [if_neg (show ¬ (tr true, σ1).1 = 0 from one_ne), show (X5_personHere (tr true, σ1).2) = some (r, σ1) from er1, Option.bind_some]
    refine o2_nr one_ne (o2_r er2 ?_)
    rcases hf with ⟨p, hp, rfl, e⟩ | ⟨rfl, no⟩
    · rw [if_neg (show ¬ (nI p, σ1).1 = -1 from ni_ne_neg (by omega))]
      exact o2_nr (Int32.not_lt.mpr (ni_nn (by omega))) (stopX 3 (by decide) (by decide))
    · have gb := ib_t (n := N) (k := 6) hN (by omega)
      rw [if_pos (show ((-1 : Int32), σ1).1 = -1 from rfl)]
      refine o2_pr neg1_lt ?_
      rw [readPerson31_eq, if_pos gb, bv_eq, if_pos gb, bv_eq, Option.bind_assoc]
      show Ok2 ((X9_next (sI (sI σ1 5 (nI N).toNatClampNeg (σ1.1 3 3)) 6 (nI N).toNatClampNeg ((sI σ1 5 (nI N).toNatClampNeg (σ1.1 3 3)).1 3 4))).bind _) (if ρ1.1 1000 2 ≤ 0 then _ else _) _
      rw [ni_cl (by omega), sI_n (by decide), hP1.1.2.1, hP1.1.2.2.1]
      refine o2_pr (by rw [hP1.2.2.2.2]; exact Int32.le_refl _) (o2_bvr ?_)
      rw [hH1.1.2.1.2.1]
      refine o2_pr gb (o2_bvr ?_)
      rw [ni_cl (by omega), hP1.2.1.2.2.2.2.2 h3]
      have hP2 : PT b k x1 (sI (sI σ1 5 N (nI x1.2.1)) 6 N (nI x1.2.2)) (sL ρ1 1002 N (pack (lets b (x1.2.2 - x1.2.1) x1.2.1))) := by
        refine ⟨(hP1.1.o (by decide) (by omega)).o (by decide) (by omega), hP1.2.1.keep (fun _ _ => rfl) rfl ?_, hP1.2.2.1, ?_, hP1.2.2.2.2⟩
        · rw [sL_r, if_neg (by omega)]
        · rw [sI_n (by decide), sI_n (by decide)]
          exact hP1.2.2.2.1
      have hNm : HN b k (N + 1) (fun p => if p = N then x1.2.1 else ns p) (fun p => if p = N then x1.2.2 else ne p) (sI (sI σ1 5 N (nI x1.2.1)) 6 N (nI x1.2.2)) (sL ρ1 1002 N (pack (lets b (x1.2.2 - x1.2.1) x1.2.1))) := by
        have eN : nmW b (fun p => if p = N then x1.2.1 else ns p) (fun p => if p = N then x1.2.2 else ne p) N = wd b x1 := by
          unfold nmW wd
          simp only [if_pos]
        have eO : ∀ p, p ≠ N → nmW b (fun p => if p = N then x1.2.1 else ns p) (fun p => if p = N then x1.2.2 else ne p) p = nmW b ns ne p := fun p hp => by
          unfold nmW
          simp only [if_neg hp]
        refine ⟨fun p hp => ?_, fun p hp => ?_, fun p q hp hq e => ?_⟩
        · by_cases e : p = N
          · subst e
            simp only [if_pos]
            rw [sI_n (by decide), sI_e, sI_e]
            exact ⟨rfl, rfl, wd_Wd hP1.2.2.1 h3⟩
          · simp only [if_neg e]
            rw [sI_n (by decide), sI_k e, sI_k e, sI_n (by decide)]
            exact hH1.2.2.2.1.1 p (by omega)
        · by_cases e : p = N
          · subst e
            rw [eN, sL_r, if_pos ⟨rfl, rfl⟩]
            rfl
          · rw [eO p e, sL_r, if_neg (fun h => e h.2)]
            exact hH1.2.2.2.1.2.1 p (by omega)
        · by_cases ep : p = N
          · by_cases eq : q = N
            · omega
            · rw [ep, eN, eO q eq] at e
              exact absurd e.symm (no q (by omega))
          · by_cases eq : q = N
            · rw [eq, eN, eO p ep] at e
              exact absurd e (no p (by omega))
            · rw [eO p ep, eO q eq] at e
              exact hH1.2.2.2.1.2.2 p q (by omega) (by omega) e
      have hc2 : ∀ a c, a ≠ 5 → a ≠ 6 → (sI (sI σ1 5 N (nI x1.2.1)) 6 N (nI x1.2.2)).1 a c = σ1.1 a c := fun a c h1 h2 => by rw [sI_n h2, sI_n h1]
      have f2 : FCu u σ (sI (sI σ1 5 N (nI x1.2.1)) 6 N (nI x1.2.2)) := (f1.w (.inl rfl)).w (.inr (.inl rfl))
      have hm2 : (sL ρ1 1002 N (pack (lets b (x1.2.2 - x1.2.1) x1.2.1))).1 = ρ1.1 := rfl
      generalize sI (sI σ1 5 N (nI x1.2.1)) 6 N (nI x1.2.2) = σ2 at *
      generalize sL ρ1 1002 N (pack (lets b (x1.2.2 - x1.2.1) x1.2.1)) = ρ2 at *
      refine o2_bind (t_next hb (by omega) hP2) (fun σ3 ρ3 q => ?_)
      have hadv2 := adv hP2 (by omega)
      have kc : ∀ a c, a ≠ 5 → a ≠ 6 → a ≠ 3 → a ≠ 2 ∨ c = 3 → σ3.1 a c = σ1.1 a c := fun a c g1 g2 g3 g4 => (q.2.1.at a c g3 (by omega)).trans (hc2 a c g1 g2)
      have km : ∀ a c, a < 5000 → (a = 1000 → 8 < c) → ρ3.1 a c = ρ1.1 a c := fun a c g1 g2 => by
        rw [q.2.2.at a c g1 (by omega), hm2]
      obtain ⟨j1, j2, j3, j4, j5⟩ := hH1.1
      rw [Option.bind_some]
      refine o2_mono (rest_ok (s := x1.2.1) hb hu hN ((kc 2 3 (by decide) (by decide) (by decide) (.inr rfl)).trans j1) ((kc u 11 (by omega) (by omega) (by omega) (.inl (by omega))).trans j3.1) ((kc u 12 (by omega) (by omega) (by omega) (.inl (by omega))).trans j2.1) ((km 1000 44 (by decide) (by omega)).trans j3.2.1) ((km 1000 42 (by decide) (by omega)).trans j2.2.1) j3.2.2 (.inl ⟨_, q.1, by omega, trivial⟩)) (fun σ4 ρ4 w => ?_)
      obtain ⟨w1, w2, w3⟩ := w
      have f4 : FCu u σ σ4 := (f2.trans (.t q.2.1)).trans (fun a c hh => w1 a c (by omega) (by omega) (by omega) (by omega))
      rcases w3 with ⟨x', y1, y2, y3, y4, y5⟩ | wX
      · have hc4 : ∀ a c, a ≠ 5 → a ≠ 6 → a ≠ 3 → a ≠ 2 ∨ c = 3 → ¬ (u + 1 ≤ a ∧ a ≤ u + 7 ∧ c = N) → ¬ (a = u ∧ c = 12) → σ4.1 a c = σ1.1 a c := fun a c g1 g2 g3 g4 g5 g6 => (w1 a c g3 (by omega) g5 g6).trans (kc a c g1 g2 g3 g4)
        have hm4 : ∀ a c, a < 5000 → (a = 1000 → 8 < c ∧ c ≠ 42) → ¬ (1012 ≤ a ∧ a ≤ 1018 ∧ c = N) → ρ4.1 a c = ρ1.1 a c := fun a c g1 g2 g3 => (w2.1 a c g1 g3 (by omega)).trans (km a c g1 (by omega))
        have hl4 : ∀ c, ρ4.2 1002 c = ρ2.2 1002 c := fun c => by
          rw [w2.2 1002 (by decide), q.2.2.2 1002 (by decide)]
        refine ⟨f4, .inl ⟨x', ⟨y1, N + 1, D, db, all, _, _, F, ⟨?_, ⟨y4, y5, by omega⟩, ⟨?_, ?_, j3.2.2⟩, ⟨?_, ?_, j4.2.2⟩, ?_, ?_, j5.2.2⟩, fun p hp => ?_, fun i j hi hj => ?_, hNm.keep (fun c hc => ⟨?_, ?_⟩) (fun c _ => hl4 c), fun w hw => ?_⟩, by omega⟩⟩
        · exact (hc4 2 3 (by decide) (by decide) (by decide) (.inr rfl) (by omega) (by omega)).trans j1
        · exact (hc4 u 11 (by omega) (by omega) (by omega) (.inl (by omega)) (by omega) (by omega)).trans j3.1
        · exact (hm4 1000 44 (by decide) (by omega) (by omega)).trans j3.2.1
        · exact (hc4 u 13 (by omega) (by omega) (by omega) (.inl (by omega)) (by omega) (by omega)).trans j4.1
        · exact (hm4 1000 43 (by decide) (by omega) (by omega)).trans j4.2.1
        · exact (hc4 u 14 (by omega) (by omega) (by omega) (.inl (by omega)) (by omega) (by omega)).trans j5.1
        · exact (hm4 1000 21 (by decide) (by omega) (by omega)).trans j5.2.1
        · by_cases e : p = N
          · subst e
            have r2 := (y3 2 (by omega) (by omega)).2.1 rfl
            have r3 := (y3 3 (by omega) (by omega)).2.2.1 rfl
            have r6 := (y3 6 (by omega) (by omega)).2.2.2.1 rfl
            have r7 := (y3 7 (by omega) (by omega)).2.2.2.2 rfl
            obtain ⟨n2, hn2, en2⟩ := r2
            exact ⟨fun j g1 g2 => (y3 j g1 g2).1, by rw [en2]; exact ni_nn (by omega), r3.1, r3.2, r6.1, r6.2, r7.1, r7.2⟩
          · exact (hH1.2.1 p (by omega)).keep (fun j g1 g2 => hc4 _ _ (by omega) (by omega) (by omega) (.inl (by omega)) (by omega) (by omega)) (fun j g1 g2 => hm4 _ _ (by omega) (by omega) (by omega))
        · obtain ⟨v, v1, v2, v3, v4⟩ := hH1.2.2.1 i j hi hj
          refine ⟨v, v1, ?_, ?_, fun e => v4 (by omega)⟩
          · rw [hc4 _ _ (by omega) (by omega) (by omega) (.inl (by omega)) (by omega) (by omega)]
            exact v2
          · rw [hm4 _ _ (by omega) (by omega) (by omega)]
            exact v3
        · rw [w1 5 c (by decide) (by omega) (by omega) (by omega)]
          exact q.2.1.at _ _ (by decide) (by omega)
        · rw [w1 6 c (by decide) (by omega) (by omega) (by omega)]
          exact q.2.1.at _ _ (by decide) (by omega)
        · exact (hH1.2.2.2.2 w hw).keep (fun a c g1 g2 => hc4 _ _ (by omega) (by omega) (by omega) (.inl (by omega)) (by omega) (by omega)) (hm4 _ _ (by omega) (by omega) (by omega)) (hm4 _ _ (by omega) (by omega) (by omega)) (fun c g1 g2 => ⟨hm4 _ _ (by omega) (by omega) (by omega), hm4 _ _ (by omega) (by omega) (by omega)⟩)
      · refine fin_px f4 wX (fun w hw => ?_)
        rw [w2.1 1005 w (by decide) (by omega) (by omega), km 1005 w (by decide) (by omega)]
        exact hH1.b5 w hw
  · rw [decide_eq_false z, if_pos (show (tr false, σ1).1 = 0 from rfl)]
    exact o2_pr rfl (stopX 2 (by decide) (by decide))
end Prs
