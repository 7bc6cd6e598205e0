/-! town: a person -/
def pRest (v2 : Int32) (σ4 : Mem) : Option Mem :=
  (X5_expect 102 σ4).bind fun σ5 =>
  gT (σ5.1 2 3) fun q6 =>
  (X5_expectNumber 0 20 σ5).bind fun r7 =>
  if ib v2 6 = true then bv (sI r7.2 (q6 + 1) v2.toNatClampNeg r7.1) fun σ8 =>
    (X5_expect 103 σ8).bind fun σ9 =>
    gT (σ9.1 2 3) fun q10 =>
    (X5_expectNumber 0 ((σ9.1 q10 11) - 1) σ9).bind fun r11 =>
    bv (r11.1 : Int32) fun v12 =>
    (X5_expect 104 r11.2).bind fun σ13 =>
    gT (σ13.1 2 3) fun q14 =>
    if ib v2 6 = true then bv (sI σ13 (q14 + 2) v2.toNatClampNeg v12) fun σ15 =>
      gT (σ15.1 2 3) fun q16 =>
      gT (σ15.1 2 3) fun q17 =>
      (X5_expectNumber (v12 + 1) (σ15.1 q17 11) σ15).bind fun r18 =>
      if ib v2 6 = true then bv (sI r18.2 (q16 + 3) v2.toNatClampNeg r18.1) fun σ19 =>
        gT (σ19.1 2 3) fun q20 =>
        (X5_numberBehind 105 9 σ19).bind fun r21 =>
        if ib v2 6 = true then bv (sI r21.2 (q20 + 4) v2.toNatClampNeg r21.1) fun σ22 =>
          gT (σ22.1 2 3) fun q23 =>
          gT (σ22.1 2 3) fun q24 =>
          (X5_numberBehind 106 ((σ22.1 q24 11) - 1) σ22).bind fun r25 =>
          if ib v2 6 = true then bv (sI r25.2 (q23 + 5) v2.toNatClampNeg r25.1) fun σ26 =>
            gT (σ26.1 2 3) fun q27 =>
            (X5_numberBehind 107 99 σ26).bind fun r28 =>
            if ib v2 6 = true then bv (sI r28.2 (q27 + 6) v2.toNatClampNeg r28.1) fun σ29 =>
              gT (σ29.1 2 3) fun q30 =>
              (X5_numberBehind 108 999 σ29).bind fun r31 =>
              if ib v2 6 = true then bv (sI r31.2 (q30 + 7) v2.toNatClampNeg r31.1) fun σ32 =>
                gT (σ32.1 2 3) fun q33 =>
                bv (sI σ32 q33 12 ((σ32.1 q33 12) + 1)) fun σ34 =>
                some σ34
              else none
            else none
          else none
        else none
      else none
    else none
  else none
theorem readPerson_eq (σ : Mem) : X5_readPerson σ = gT (σ.1 2 3) fun q1 => bv (σ.1 q1 12 : Int32) fun v2 => if v2 < 6 then (X9_next σ).bind fun σ3 => (X5_readNewName v2 σ3).bind fun σ4 => pRest v2 σ4 else (X5_fail 2 σ).bind fun σ35 => some σ35 := rfl
def mRest (v6 : Int32) (σ8 : Mem) : Option Mem :=
  (X12_told 24948 0 20 σ8).bind fun r9 =>
  if ib v6 6 = true then bv (sI r9.2 1012 v6.toNatClampNeg r9.1) fun σ10 =>
    (X12_told 1869636974 0 ((σ10.1 1000 44) - 1) σ10).bind fun r11 =>
    if ib v6 6 = true then bv (sI r11.2 1013 v6.toNatClampNeg r11.1) fun σ12 =>
      if ib v6 6 = true then
        (X12_told 29807 ((σ12.1 1013 v6.toNatClampNeg) + 1) (σ12.1 1000 44) σ12).bind fun r13 =>
        if ib v6 6 = true then bv (sI r13.2 1014 v6.toNatClampNeg r13.1) fun σ14 =>
          (X12_option 109299962049139 9 σ14).bind fun r15 =>
          if ib v6 6 = true then bv (sI r15.2 1015 v6.toNatClampNeg r15.1) fun σ16 =>
            (X12_option 1919251316 ((σ16.1 1000 44) - 1) σ16).bind fun r17 =>
            if ib v6 6 = true then bv (sI r17.2 1016 v6.toNatClampNeg r17.1) fun σ18 =>
              (X12_option 482955846501 99 σ18).bind fun r19 =>
              if ib v6 6 = true then bv (sI r19.2 1017 v6.toNatClampNeg r19.1) fun σ20 =>
                (X12_option 1668245870 999 σ20).bind fun r21 =>
                if ib v6 6 = true then bv (sI r21.2 1018 v6.toNatClampNeg r21.1) fun σ22 =>
                  if (σ22.1 1000 2) = 0 then
                    bv (sI σ22 1000 42 ((σ22.1 1000 42) + 1)) fun σ23 =>
                    some σ23
                  else
                    some σ22
                else none
              else none
            else none
          else none
        else none
      else none
    else none
  else none
theorem readPerson31_eq (σ : Mem) : X12_readPerson_31 σ = if (σ.1 1000 2) ≤ 0 then bv (σ.1 1000 42 : Int32) fun v6 => if ib v6 6 = true then bv (sL σ 1002 v6.toNatClampNeg (σ.2 1000 9)) fun σ7 => (X12_token σ7).bind fun σ8 => mRest v6 σ8 else none else some σ := rfl
def LCu (u : Nat) : List Nat := [3, 5, 6] ++ (List.range 24).map (fun j => u + j)
theorem mem_LCu {u a : Nat} (h : a = 3 ∨ a = 5 ∨ a = 6 ∨ (u ≤ a ∧ a ≤ u + 23)) : a ∈ LCu u := by
  unfold LCu
  rw [List.mem_append, List.mem_map]
  rcases h with h | h | h | h
  · left; simp [h]
  · left; simp [h]
  · left; simp [h]
  · right
    exact ⟨a - u, by rw [List.mem_range]; omega, by omega⟩
theorem not_LCu {u a : Nat} (h : a ∈ LCu u) : a = 3 ∨ a = 5 ∨ a = 6 ∨ (u ≤ a ∧ a ≤ u + 23) := by
  unfold LCu at h
  rw [List.mem_append, List.mem_map] at h
  rcases h with h | ⟨j, h1, h2⟩
  · simp at h
    omega
  · rw [List.mem_range] at h1
    omega
def KCu : List (Nat × Nat) := [(2, 4), (2, 5), (2, 6)]
theorem pRestX {u N : Nat} {σ : Mem} (hu : u = 7 ∨ u = 124) (hN : N < 6) (h23 : σ.1 2 3 = nI u) (h25 : σ.1 2 5 ≠ 0) : Ok (pRest (nI N) σ) (fun σ' => Fr (LCu u) [] σ σ') := by
  have gb := ib_t (n := N) (k := 6) hN (by omega)
  have key : ∀ {τ : Mem}, Fr (LCu u) [] σ τ → τ.1 2 5 ≠ 0 ∧ τ.1 2 3 = nI u := fun {τ} g => by
    have n2 : ¬ 2 ∈ LCu u := fun e => by have := not_LCu e; omega
    rw [g.1 2 5 n2 (by simp), g.1 2 3 n2 (by simp)]
    exact ⟨h25, h23⟩
  have wr : ∀ {τ : Mem} (j c : Nat) (v : Int32), j ≤ 23 → Fr (LCu u) [] σ τ → Fr (LCu u) [] σ (sI τ (u + j) c v) := fun j c v hj g => frI g (mem_LCu (by omega))
  have f0 : Fr (LCu u) [] σ σ := Fr.refl
  unfold pRest
  refine ok_bindE (expectX h25) ?_
  rw [gT_u hu h23]
  refine ok_bindE (expectNumberX h25) (ok_pos gb (ok_bv ?_))
  rw [ni_cl (by omega)]
  have f1 := wr 1 N 0 (by omega) f0
  show Ok ((X5_expect 103 (sI σ (u + 1) N 0)).bind _) _
  generalize sI σ (u + 1) N 0 = τ1 at *
  refine ok_bindE (expectX (key f1).1) ?_
  rw [gT_u hu (key f1).2]
  refine ok_bindE (expectNumberX (key f1).1) (ok_bv (ok_bindE (expectX (key f1).1) ?_))
  show Ok (gT (τ1.1 2 3) _) _
  rw [gT_u hu (key f1).2]
  refine ok_pos gb (ok_bv ?_)
  have f2 := wr 2 N 0 (by omega) f1
  show Ok (gT ((sI τ1 (u + 2) N 0).1 2 3) _) _
  generalize sI τ1 (u + 2) N 0 = τ2 at *
  rw [gT_u hu (key f2).2, gT_u hu (key f2).2]
  refine ok_bindE (expectNumberX (key f2).1) (ok_pos gb (ok_bv ?_))
  have f3 := wr 3 N 0 (by omega) f2
  show Ok (gT ((sI τ2 (u + 3) N 0).1 2 3) _) _
  generalize sI τ2 (u + 3) N 0 = τ3 at *
  rw [gT_u hu (key f3).2]
  refine ok_bindE (numberBehindX (key f3).1) (ok_pos gb (ok_bv ?_))
  have f4 := wr 4 N 0 (by omega) f3
  show Ok (gT ((sI τ3 (u + 4) N 0).1 2 3) _) _
  generalize sI τ3 (u + 4) N 0 = τ4 at *
  rw [gT_u hu (key f4).2, gT_u hu (key f4).2]
  refine ok_bindE (numberBehindX (key f4).1) (ok_pos gb (ok_bv ?_))
  have f5 := wr 5 N 0 (by omega) f4
  show Ok (gT ((sI τ4 (u + 5) N 0).1 2 3) _) _
  generalize sI τ4 (u + 5) N 0 = τ5 at *
  rw [gT_u hu (key f5).2]
  refine ok_bindE (numberBehindX (key f5).1) (ok_pos gb (ok_bv ?_))
  have f6 := wr 6 N 0 (by omega) f5
  show Ok (gT ((sI τ5 (u + 6) N 0).1 2 3) _) _
  generalize sI τ5 (u + 6) N 0 = τ6 at *
  rw [gT_u hu (key f6).2]
  refine ok_bindE (numberBehindX (key f6).1) (ok_pos gb (ok_bv ?_))
  have f7 := wr 7 N 0 (by omega) f6
  show Ok (gT ((sI τ6 (u + 7) N 0).1 2 3) _) _
  generalize sI τ6 (u + 7) N 0 = τ7 at *
  rw [gT_u hu (key f7).2]
  exact ok_bv (ok_some (wr 0 12 _ (by omega) f7))
/-! the rows of the person that is read -/
def bd (D j : Nat) (v f : Int32) : Prop := (j = 2 → ∃ n, n < 10000 ∧ v = nI n) ∧ (j = 3 → f < v ∧ v ≤ nI D) ∧ (j = 6 → 0 ≤ v ∧ v ≤ 99) ∧ (j = 7 → 0 ≤ v ∧ v ≤ 999)
def RowUp (u N D m : Nat) (σ ρ : Mem) : Prop := ∀ j, 1 ≤ j → j ≤ m → σ.1 (u + j) N = ρ.1 (1011 + j) N ∧ bd D j (σ.1 (u + j) N) (σ.1 (u + 2) N)
/-- what pRest and mRest leave alone -/
def FineC (u N : Nat) (σ σ' : Mem) : Prop := ∀ a c, a ≠ 3 → ¬ (a = 2 ∧ (c = 5 ∨ c = 6)) → ¬ (u + 1 ≤ a ∧ a ≤ u + 7 ∧ c = N) → σ'.1 a c = σ.1 a c
def FineCp (u N : Nat) (σ σ' : Mem) : Prop := ∀ a c, a ≠ 3 → ¬ (a = 2 ∧ (c = 5 ∨ c = 6)) → ¬ (u + 1 ≤ a ∧ a ≤ u + 7 ∧ c = N) → ¬ (a = u ∧ c = 12) → σ'.1 a c = σ.1 a c
def FineM (N : Nat) (ρ ρ' : Mem) : Prop := (∀ a c, a < 5000 → ¬ (1012 ≤ a ∧ a ≤ 1018 ∧ c = N) → ¬ (a = 1000 ∧ (c = 2 ∨ c = 3 ∨ c = 4 ∨ c = 6 ∨ c = 7 ∨ c = 8)) → ρ'.1 a c = ρ.1 a c) ∧ LN ρ ρ'
def FineMp (N : Nat) (ρ ρ' : Mem) : Prop := (∀ a c, a < 5000 → ¬ (1012 ≤ a ∧ a ≤ 1018 ∧ c = N) → ¬ (a = 1000 ∧ (c = 2 ∨ c = 3 ∨ c = 4 ∨ c = 6 ∨ c = 7 ∨ c = 8 ∨ c = 42)) → ρ'.1 a c = ρ.1 a c) ∧ LN ρ ρ'
section Fines
variable {u N : Nat} {σ σ1 σ2 ρ ρ1 ρ2 : Mem}
theorem FineC.refl : FineC u N σ σ := fun _ _ _ _ _ => rfl
theorem FineC.t (h : FineC u N σ σ1) (g : Fc σ1 σ2) : FineC u N σ σ2 := fun a c h1 h2 h3 => (g.at a c h1 (by omega)).trans (h a c h1 h2 h3)
theorem FineC.w {j : Nat} {v : Int32} (h : FineC u N σ σ1) (h1 : 1 ≤ j) (h7 : j ≤ 7) : FineC u N σ (sI σ1 (u + j) N v) := fun a c q1 q2 q3 => by
  rw [sI_r, if_neg (by omega)]
  exact h a c q1 q2 q3
theorem FineM.refl : FineM N ρ ρ := ⟨fun _ _ _ _ _ => rfl, fun _ _ => rfl⟩
theorem FineM.t (h : FineM N ρ ρ1) (g : Fm ρ1 ρ2) : FineM N ρ ρ2 := ⟨fun a c h1 h2 h3 => (g.1.1 a c (by simp; omega) (by simp; omega)).trans (h.1 a c h1 h2 h3), h.2.trans g.2⟩
theorem FineM.w {j : Nat} {v : Int32} (h : FineM N ρ ρ1) (h1 : 1 ≤ j) (h7 : j ≤ 7) : FineM N ρ (sI ρ1 (1011 + j) N v) := ⟨fun a c q1 q2 q3 => by
  rw [sI_r, if_neg (by omega)]
  exact h.1 a c q1 q2 q3, h.2⟩
end Fines
section Person
variable {b : Nat → Nat} {k u N D s : Nat} {σ ρ σ' ρ' : Mem}
theorem PT.o {x : Tk} {o c o' c' : Nat} {v v' : Int32} (h : PT b k x σ ρ) (h1 : o ≠ 1 ∧ o ≠ 2 ∧ o ≠ 3) (h2 : o' ≠ 1000 ∧ o' ≠ 1001) : PT b k x (sI σ o c v) (sI ρ o' c' v') :=
  ⟨h.1.o (Ne.symm h1.2.2) ⟨Ne.symm h1.1, .inl (Ne.symm h1.2.1)⟩, h.2.1.o (Ne.symm h2.1) (Ne.symm h2.2), h.2.2.1, by rw [sI_n (Ne.symm h1.2.1)]; exact h.2.2.2.1, by rw [sI_n (Ne.symm h2.1)]; exact h.2.2.2.2⟩
theorem Dz.o {F : Prop} {o c o' c' : Nat} {v v' : Int32} (h : Dz b k s F σ ρ) (h1 : o ≠ 1 ∧ o ≠ 2 ∧ o ≠ 3) (h2 : o' ≠ 1000 ∧ o' ≠ 1001) : Dz b k s F (sI σ o c v) (sI ρ o' c' v') := by
  rcases h with ⟨x, h, q⟩ | h
  · exact .inl ⟨x, h.o h1 h2, q⟩
  · exact .inr (h.o h1.2.1 h2.1)
theorem Dz.oc {F : Prop} {o c : Nat} {v : Int32} (h : Dz b k s F σ ρ) (h1 : o ≠ 1 ∧ o ≠ 2 ∧ o ≠ 3) : Dz b k s F (sI σ o c v) ρ := by
  rcases h with ⟨x, h, q⟩ | h
  · exact .inl ⟨x, ⟨h.1.o (Ne.symm h1.2.2) ⟨Ne.symm h1.1, .inl (Ne.symm h1.2.1)⟩, h.2.1, h.2.2.1, by rw [sI_n (Ne.symm h1.2.1)]; exact h.2.2.2.1, h.2.2.2.2⟩, q⟩
  · exact .inr (h.cong (by rw [sI_n (Ne.symm h1.2.1)]) (by rw [sI_n (Ne.symm h1.2.1)]) rfl rfl)
theorem Dz.om {F : Prop} {o c : Nat} {v : Int32} (h : Dz b k s F σ ρ) (h2 : o ≠ 1000 ∧ o ≠ 1001) : Dz b k s F σ (sI ρ o c v) := by
  rcases h with ⟨x, h, q⟩ | h
  · exact .inl ⟨x, ⟨h.1, h.2.1.o (Ne.symm h2.1) (Ne.symm h2.2), h.2.2.1, h.2.2.2.1, by rw [sI_n (Ne.symm h2.1)]; exact h.2.2.2.2⟩, q⟩
  · exact .inr (h.cong rfl rfl (by rw [sI_n (Ne.symm h2.1)]) (by rw [sI_n (Ne.symm h2.1)]))
theorem Dz.map {F F' : Prop} (h : Dz b k s F σ ρ) (hf : F → F') : Dz b k s F' σ ρ := by
  rcases h with ⟨x, h, q, g⟩ | h
  · exact .inl ⟨x, h, q, hf g⟩
  · exact .inr h
theorem RowUp.put {m : Nat} {r t : Int32} {σ0 ρ0 : Mem} (h : RowUp u N D m σ0 ρ0) (hc : ∀ j, 1 ≤ j → j ≤ m → σ'.1 (u + j) N = σ0.1 (u + j) N) (hm : ∀ j, 1 ≤ j → j ≤ m → ρ'.1 (1011 + j) N = ρ0.1 (1011 + j) N) (er : σ'.1 (u + (m + 1)) N = r) (et : ρ'.1 (1011 + (m + 1)) N = t) (e : r = t) (hb : bd D (m + 1) r (σ'.1 (u + 2) N)) : RowUp u N D (m + 1) σ' ρ' := fun j h1 h2 => by
  by_cases z : j = m + 1
  · subst z
    rw [er, et]
    exact ⟨e, hb⟩
  · obtain ⟨g1, g2⟩ := h j h1 (by omega)
    rw [hc j h1 (by omega), hm j h1 (by omega)]
    refine ⟨g1, ?_⟩
    by_cases y : 2 ≤ m
    · rw [hc 2 (by omega) y]
      exact g2
    · have : j ≤ 1 := by omega
      exact ⟨fun e => by omega, fun e => by omega, fun e => by omega, fun e => by omega⟩
/-- one row more -/
theorem putR {m : Nat} {x1 x2 : Int32} {r t : Int32} {σ0 ρ0 : Mem} (h : Dz b k s (RowUp u N D m σ0 ρ0 ∧ NumR x1 x2 r t) σ ρ) (hu : 3 < u) (hm : m < 7) (fc : Fc σ0 σ) (fm : Fm ρ0 ρ) (hbd : RowUp u N D m σ0 ρ0 → NumR x1 x2 r t → bd D (m + 1) r (if m + 1 = 2 then r else σ0.1 (u + 2) N)) : Dz b k s (RowUp u N D (m + 1) (sI σ (u + (m + 1)) N r) (sI ρ (1011 + (m + 1)) N t)) (sI σ (u + (m + 1)) N r) (sI ρ (1011 + (m + 1)) N t) := by
  refine (h.o (by omega) (by omega)).map (fun q => ?_)
  refine q.1.put (fun j h1 h2 => ?_) (fun j h1 h2 => ?_) (sI_e _ _ _ _) (sI_e _ _ _ _) q.2.1 ?_
  · rw [sI_n (by omega)]
    exact fc.at _ _ (by omega) (by omega)
  · rw [sI_n (by omega)]
    exact fm.at _ _ (by omega) (by omega)
  · have g := hbd q.1 q.2
    by_cases z : m + 1 = 2
    · refine ⟨fun _ => ?_, fun e => by omega, fun e => by omega, fun e => by omega⟩
      exact g.1 z
    · rw [if_neg z] at g
      rw [sI_n (by omega), fc.at _ _ (by omega) (by omega)]
      exact g
theorem bd_free {j : Nat} {v f : Int32} (h : j ≠ 2 ∧ j ≠ 3 ∧ j ≠ 6 ∧ j ≠ 7) : bd D j v f := ⟨fun e => absurd e h.1, fun e => absurd e h.2.1, fun e => absurd e h.2.2.1, fun e => absurd e h.2.2.2⟩
theorem NumR.nn {x1 x2 r t : Int32} (h : NumR x1 x2 r t) : 0 ≤ r := by
  obtain ⟨v, hv, e⟩ := h.2.1
  rw [e]
  exact ni_nn (by omega)
theorem rest_ok (hb : TB b k) (hu : u = 7 ∨ u = 124) (hN : N < 6) (h23 : σ.1 2 3 = nI u) (h11 : σ.1 u 11 = nI D) (h12 : σ.1 u 12 = nI N) (h44 : ρ.1 1000 44 = nI D) (h42 : ρ.1 1000 42 = nI N) (hD : 2 ≤ D ∧ D ≤ 24) (h : Dz b k s True σ ρ) :
    Ok2 (pRest (nI N) σ) (mRest (nI N) ρ) (fun σ' ρ' => FineCp u N σ σ' ∧ FineMp N ρ ρ' ∧ ((∃ x, PT b k x σ' ρ' ∧ s ≤ x.2.1 ∧ RowUp u N D 7 σ' ρ' ∧ σ'.1 u 12 = nI (N + 1) ∧ ρ'.1 1000 42 = nI (N + 1)) ∨ PX σ' ρ')) := by
  have hu3 : 3 < u := by omega
  have gb := ib_t (n := N) (k := 6) hN (by omega)
  have kC : ∀ {τ : Mem}, FineC u N σ τ → τ.1 2 3 = nI u ∧ τ.1 u 11 = nI D := fun g => ⟨(g 2 3 (by omega) (by omega) (by omega)).trans h23, (g u 11 (by omega) (by omega) (by omega)).trans h11⟩
  have kM : ∀ {τ : Mem}, FineM N ρ τ → τ.1 1000 44 = nI D := fun g => (g.1 1000 44 (by omega) (by omega) (by omega)).trans h44
  have eD : nI D - 1 = nI (D - 1) := by
    obtain ⟨d, rfl⟩ : ∃ d, D = d + 1 := ⟨D - 1, by omega⟩
    rw [ni_pred]
    rfl
  unfold pRest mRest
  rw [told_bind]
  refine o2_bind (st_expect (i := 2) hb (by decide) wc2 h) (fun σ1 ρ1 g1 => ?_)
  have c1 := FineC.refl.t g1.2.1 (u := u) (N := N)
  have m1 := FineM.refl.t g1.2.2 (N := N)
  rw [gT_u hu (kC c1).1]
  have z1 : Dz b k s (RowUp u N D 0 σ1 ρ1) σ1 ρ1 := g1.1.map (fun _ j h1 h2 => by omega)
  refine o2_bind (st_number (x1 := 0) (x2 := 20) (y1 := 0) (y2 := 20) hb (fun _ => ⟨rfl, rfl⟩) z1) (fun r t q => ?_)
  refine o2_pl gb (o2_pr gb (o2_bvl (o2_bvr ?_)))
  rw [ni_cl (by omega)]
  have z2 := putR (m := 0) q.1 hu3 (by omega) q.2.1 q.2.2 (fun _ _ => bd_free (by omega))
  have c2 : FineC u N σ (sI r.2 (u + 1) N r.1) := (c1.t q.2.1).w (by omega) (by omega)
  have m2 : FineM N ρ (sI t.2 1012 N t.1) := (m1.t q.2.2).w (j := 1) (by omega) (by omega)
  change Dz b k s (RowUp u N D 1 (sI r.2 (u + 1) N r.1) (sI t.2 1012 N t.1)) (sI r.2 (u + 1) N r.1) (sI t.2 1012 N t.1) at z2
  generalize sI r.2 (u + 1) N r.1 = σ2 at *
  generalize sI t.2 1012 N t.1 = ρ2 at *
  clear q z1 g1
  rw [told_bind]
  refine o2_bind (st_expect (i := 3) hb (by decide) wc3 z2) (fun σ3 ρ3 g => ?_)
  have c3 := c2.t g.2.1
  have m3 := m2.t g.2.2
  rw [gT_u hu (kC c3).1, (kC c3).2, show ρ2.1 1000 44 = nI D from kM m2, eD]
  refine o2_bind (st_number (x1 := 0) (x2 := nI (D - 1)) (y1 := 0) (y2 := nI (D - 1)) hb (fun _ => ⟨rfl, rfl⟩) g.1) (fun r t q => ?_)
  refine o2_bvl (o2_pr gb (o2_bvr ?_))
  refine o2_pr gb ?_
  rw [told_bind]
  have z4 := q.1.om (o := 1013) (c := N) (v := t.1) (by omega)
  have m4 : FineM N ρ (sI t.2 1013 N t.1) := (m3.t q.2.2).w (j := 2) (by omega) (by omega)
  have e13 : (sI t.2 1013 N t.1).1 1013 N = t.1 := sI_e _ _ _ _
  have e12 : (sI t.2 1013 N t.1).1 1012 N = ρ2.1 1012 N := by
    rw [sI_n (by decide), q.2.2.at _ _ (by decide) (by omega)]
    exact g.2.2.at _ _ (by decide) (by omega)
  generalize sI t.2 1013 N t.1 = ρ4 at *
  refine o2_bind (st_expect (i := 4) hb (by decide) wc4 z4) (fun σ5 ρ5 g5 => ?_)
  have c5 := (c3.t q.2.1).t g5.2.1
  have m5 := m4.t g5.2.2
  rw [gT_u hu (kC c5).1]
  refine o2_pl gb (o2_bvl ?_)
  have c6 : FineC u N σ (sI σ5 (u + 2) N r.1) := c5.w (by omega) (by omega)
  have z6 : Dz b k s (RowUp u N D 2 (sI σ5 (u + 2) N r.1) ρ5 ∧ r.1 = t.1) (sI σ5 (u + 2) N r.1) ρ5 := by
    refine (g5.1.oc (by omega)).map (fun F => ⟨?_, F.2.1⟩)
    refine F.1.put (m := 1) (r := r.1) (t := t.1) (fun j h1 h2 => ?_) (fun j h1 h2 => ?_) (sI_e _ _ _ _) ?_ F.2.1 ⟨fun _ => F.2.2.1, fun e => by omega, fun e => by omega, fun e => by omega⟩
    · rw [sI_n (by omega), g5.2.1.at _ _ (by omega) (by omega), q.2.1.at _ _ (by omega) (by omega)]
      exact g.2.1.at _ _ (by omega) (by omega)
    · have : j = 1 := by omega
      subst this
      show ρ5.1 1012 N = ρ2.1 1012 N
      rw [g5.2.2.at _ _ (by decide) (by omega)]
      exact e12
    · show ρ5.1 1013 N = t.1
      rw [g5.2.2.at _ _ (by decide) (by omega)]
      exact e13
  have e2 : (sI σ5 (u + 2) N r.1).1 (u + 2) N = r.1 := sI_e _ _ _ _
  have e44 : ρ4.1 1000 44 = nI D := kM m4
  have hr1 : r.1 = r.1 := rfl
  show Ok2 (gT ((sI σ5 (u + 2) N r.1).1 2 3) _) _ _
  generalize sI σ5 (u + 2) N r.1 = σ6 at *
  rw [gT_u hu (kC c6).1, gT_u hu (kC c6).1, (kC c6).2, e13, e44]
  refine o2_bind (st_number (x1 := r.1 + 1) (x2 := nI D) (y1 := t.1 + 1) (y2 := nI D) hb (fun F => ⟨by rw [F.2], rfl⟩) z6) (fun r3 t3 q3 => ?_)
  refine o2_pl gb (o2_pr gb (o2_bvl (o2_bvr ?_)))
  have b7 : RowUp u N D 2 σ6 ρ5 → NumR (σ6.1 (u + 2) N + 1) (nI D) r3.1 t3.1 → bd D 3 r3.1 (if 2 + 1 = 2 then r3.1 else σ6.1 (u + 2) N) := fun F G => by
    refine ⟨fun e => by omega, fun _ => ?_, fun e => by omega, fun e => by omega⟩
    rw [if_neg (by decide)]
    refine ⟨?_, G.2.2.2⟩
    have h1 := G.2.2.1
    obtain ⟨v, hv, ev⟩ := G.2.1
    obtain ⟨n, hn, en⟩ := (F 2 (by omega) (by omega)).2.1 rfl
    rw [en, ev, ni_succ, ni_lt (by omega) (by omega)] at h1
    rw [en, ev, ni_lt (by omega) (by omega)]
    omega
  have z7 := putR (m := 2) (q3.1.map (F' := RowUp u N D 2 σ6 ρ5 ∧ NumR (σ6.1 (u + 2) N + 1) (nI D) r3.1 t3.1) (fun F => ⟨F.1.1, by rw [e2]; exact F.2⟩)) hu3 (by omega) q3.2.1 q3.2.2 b7
  have c7 : FineC u N σ (sI r3.2 (u + 3) N r3.1) := (c6.t q3.2.1).w (by omega) (by omega)
  have m7 : FineM N ρ (sI t3.2 1014 N t3.1) := (m5.t q3.2.2).w (j := 3) (by omega) (by omega)
  change Dz b k s (RowUp u N D 3 (sI r3.2 (u + 3) N r3.1) (sI t3.2 1014 N t3.1)) (sI r3.2 (u + 3) N r3.1) (sI t3.2 1014 N t3.1) at z7
  show Ok2 (gT ((sI r3.2 (u + 3) N r3.1).1 2 3) _) _ _
  generalize sI r3.2 (u + 3) N r3.1 = σ7 at *
  generalize sI t3.2 1014 N t3.1 = ρ7 at *
  rw [gT_u hu (kC c7).1]
  refine o2_bind (st_option (i := 5) hb (by decide) wc5 (fun _ => ⟨rfl, by decide⟩) z7) (fun r4 t4 q4 => ?_)
  refine o2_pl gb (o2_pr gb (o2_bvl (o2_bvr ?_)))
  have z8 := putR (m := 3) q4.1 hu3 (by omega) q4.2.1 q4.2.2 (fun _ _ => bd_free (by omega))
  have c8 : FineC u N σ (sI r4.2 (u + 4) N r4.1) := (c7.t q4.2.1).w (by omega) (by omega)
  have m8 : FineM N ρ (sI t4.2 1015 N t4.1) := (m7.t q4.2.2).w (j := 4) (by omega) (by omega)
  change Dz b k s (RowUp u N D 4 (sI r4.2 (u + 4) N r4.1) (sI t4.2 1015 N t4.1)) (sI r4.2 (u + 4) N r4.1) (sI t4.2 1015 N t4.1) at z8
  show Ok2 (gT ((sI r4.2 (u + 4) N r4.1).1 2 3) _) _ _
  generalize sI r4.2 (u + 4) N r4.1 = σ8 at *
  generalize sI t4.2 1015 N t4.1 = ρ8 at *
  rw [gT_u hu (kC c8).1]
  rw [gT_u hu (kC c8).1, (kC c8).2, show ρ8.1 1000 44 = nI D from kM m8, eD]
  refine o2_bind (st_option (i := 6) hb (by decide) wc6 (fun _ => ⟨rfl, ni_nn (by omega)⟩) z8) (fun r5 t5 q5 => ?_)
  refine o2_pl gb (o2_pr gb (o2_bvl (o2_bvr ?_)))
  have z9 := putR (m := 4) q5.1 hu3 (by omega) q5.2.1 q5.2.2 (fun _ _ => bd_free (by omega))
  have c9 : FineC u N σ (sI r5.2 (u + 5) N r5.1) := (c8.t q5.2.1).w (by omega) (by omega)
  have m9 : FineM N ρ (sI t5.2 1016 N t5.1) := (m8.t q5.2.2).w (j := 5) (by omega) (by omega)
  change Dz b k s (RowUp u N D 5 (sI r5.2 (u + 5) N r5.1) (sI t5.2 1016 N t5.1)) (sI r5.2 (u + 5) N r5.1) (sI t5.2 1016 N t5.1) at z9
  show Ok2 (gT ((sI r5.2 (u + 5) N r5.1).1 2 3) _) _ _
  generalize sI r5.2 (u + 5) N r5.1 = σ9 at *
  generalize sI t5.2 1016 N t5.1 = ρ9 at *
  rw [gT_u hu (kC c9).1]
  refine o2_bind (st_option (i := 7) hb (by decide) wc7 (fun _ => ⟨rfl, by decide⟩) z9) (fun r6 t6 q6 => ?_)
  refine o2_pl gb (o2_pr gb (o2_bvl (o2_bvr ?_)))
  have z10 := putR (m := 5) q6.1 hu3 (by omega) q6.2.1 q6.2.2 (fun _ G => ⟨fun e => by omega, fun e => by omega, fun _ => ⟨G.nn, G.2.2.2⟩, fun e => by omega⟩)
  have c10 : FineC u N σ (sI r6.2 (u + 6) N r6.1) := (c9.t q6.2.1).w (by omega) (by omega)
  have m10 : FineM N ρ (sI t6.2 1017 N t6.1) := (m9.t q6.2.2).w (j := 6) (by omega) (by omega)
  change Dz b k s (RowUp u N D 6 (sI r6.2 (u + 6) N r6.1) (sI t6.2 1017 N t6.1)) (sI r6.2 (u + 6) N r6.1) (sI t6.2 1017 N t6.1) at z10
  show Ok2 (gT ((sI r6.2 (u + 6) N r6.1).1 2 3) _) _ _
  generalize sI r6.2 (u + 6) N r6.1 = σ10 at *
  generalize sI t6.2 1017 N t6.1 = ρ10 at *
  rw [gT_u hu (kC c10).1]
  refine o2_bind (st_option (i := 8) hb (by decide) wc8 (fun _ => ⟨rfl, by decide⟩) z10) (fun r7 t7 q7 => ?_)
  refine o2_pl gb (o2_pr gb (o2_bvl (o2_bvr ?_)))
  have z11 := putR (m := 6) q7.1 hu3 (by omega) q7.2.1 q7.2.2 (fun _ G => ⟨fun e => by omega, fun e => by omega, fun e => by omega, fun _ => ⟨G.nn, G.2.2.2⟩⟩)
  have c11 : FineC u N σ (sI r7.2 (u + 7) N r7.1) := (c10.t q7.2.1).w (by omega) (by omega)
  have m11 : FineM N ρ (sI t7.2 1018 N t7.1) := (m10.t q7.2.2).w (j := 7) (by omega) (by omega)
  change Dz b k s (RowUp u N D 7 (sI r7.2 (u + 7) N r7.1) (sI t7.2 1018 N t7.1)) (sI r7.2 (u + 7) N r7.1) (sI t7.2 1018 N t7.1) at z11
  show Ok2 (gT ((sI r7.2 (u + 7) N r7.1).1 2 3) _) _ _
  generalize sI r7.2 (u + 7) N r7.1 = σ11 at *
  generalize sI t7.2 1018 N t7.1 = ρ11 at *
  rw [gT_u hu (kC c11).1]
  have k12 : σ11.1 u 12 = nI N := (c11 u 12 (by omega) (by omega) (by omega)).trans h12
  have k42 : ρ11.1 1000 42 = nI N := (m11.1 1000 42 (by omega) (by omega) (by omega)).trans h42
  refine o2_bvl ?_
  rw [k12, ni_succ]
  have cf : FineCp u N σ (sI σ11 u 12 (nI (N + 1))) := fun a c q1 q2 q3 q4 => by
    rw [sI_r, if_neg (by omega)]
    exact c11 a c q1 q2 q3
  rcases z11 with ⟨x, zP, zs, zR⟩ | zX
  · refine o2_pr zP.2.2.2.2 (o2_bvr ?_)
    rw [k42, ni_succ]
    refine o2_some ⟨cf, ⟨fun a c q1 q2 q3 => ?_, m11.2⟩, .inl ⟨x, ⟨zP.1.o (by omega) (by omega), zP.2.1.k (by decide), zP.2.2.1, ?_, ?_⟩, zs, fun j h1 h2 => ?_, sI_e _ _ _ _, sI_e _ _ _ _⟩⟩
    · rw [sI_r, if_neg (by omega)]
      exact m11.1 a c q1 q2 (by omega)
    · rw [sI_n (by omega)]
      exact zP.2.2.2.1
    · rw [sI_k (by decide)]
      exact zP.2.2.2.2
    · rw [sI_n (by omega), sI_n (by omega), sI_n (by omega)]
      exact zR j h1 h2
  · refine o2_nr zX.neM.1 (o2_some ⟨cf, ⟨fun a c q1 q2 q3 => m11.1 a c q1 q2 (by omega), m11.2⟩, .inr (zX.cong ?_ ?_ rfl rfl)⟩)
    · rw [sI_n (by omega)]
    · rw [sI_n (by omega)]
end Person
