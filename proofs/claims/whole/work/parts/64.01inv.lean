/-! THE INVARIANT between class (σ) and reference (ρ), and how it is kept -/
def rowR (n : Nat) (s : St) (f : Nat → Int32) : Prop := (∀ p, p < n → f p = s 1 p ∧ f (6 + p) = s 2 p ∧ f (12 + p) = s 3 p ∧ f (18 + p) = s 4 p) ∧ (∀ k, k < 36 → f (24 + k) = s 5 k) ∧ f 60 = s 0 5 ∧ f 61 = s 0 6 ∧ f 62 = s 0 7
def pos : Pg → Nat → List Nat
  | [], _ => []
  | c :: r, i => if c.1 = 0 then i :: pos r (i + 1) else pos r (i + 1)
/-- the class's list of the law's numbers -/
def CN (T : Tn) (t : Nat) (σ : Mem) : Prop := match tP T 0 with
  | none => σ.1 (t + 9) 7 = 0
  | some pr => (pos pr 0).length ≤ 30 ∧ σ.1 (t + 9) 7 = nI (pos pr 0).length ∧ ∀ j (h : j < (pos pr 0).length), σ.1 (t + 13) j = nI (pos pr 0)[j]
def MN (T : Tn) (ρ : Mem) : Prop := ρ.1 1000 45 = nI (tN T) ∧ ρ.1 1000 46 = nI (tD T) ∧
  (∀ p, p < tN T → ρ.1 1020 p = tR T 1 p ∧ ρ.1 1021 p = tR T 2 p ∧ ρ.1 1022 p = tR T 3 p ∧ ρ.1 1023 p = tR T 4 p ∧ ρ.1 1024 p = tR T 5 p ∧ ρ.1 1025 p = tR T 6 p) ∧
  MPg T ρ 0 ∧ MPg T ρ 1 ∧ MPg T ρ 2
def I_town (t : Nat) (T : Tn) (σ ρ : Mem) : Prop := (t = 7 ∨ t = 124) ∧ σ.1 0 12 = nI t ∧ σ.1 2 3 = nI (131 - t) ∧ okT T ∧ CT T t σ ∧ CN T t σ ∧ MN T ρ ∧ σ.1 t 14 = ρ.1 1000 22
/-- a state that may be now -/
def okN (T : Tn) (s : St) : Prop := okS T s ∧ (s 0 7).toInt ≤ 2000
def I_now (T : Tn) (s : St) (σ ρ : Mem) : Prop := okN T s ∧ CS T s σ 31 ∧ rowR (tN T) s (ρ.1 1028)
def I_hist (T : Tn) (s : St) (σ ρ : Mem) : Prop := ∃ (H : Nat → St) (dn kp : Nat), dn ≤ kp ∧ kp ≤ 40 ∧ H dn = s ∧ σ.1 37 1 = nI dn ∧ σ.1 37 2 = nI kp ∧ ρ.1 1000 69 = nI dn ∧ ρ.1 1000 70 = nI (kp - dn) ∧
  (∀ i, i ≤ kp → okN T (H i) ∧ rowR (tN T) (H i) (fun k => σ.1 38 (63 * i + k))) ∧
  (∀ i, i < dn → rowR (tN T) (H i) (fun k => ρ.1 1039 (64 * i + k))) ∧ (∀ i, dn ≤ i → i < kp → rowR (tN T) (H (i + 1)) (fun k => ρ.1 1039 (64 * i + k)))
def I_box (T : Tn) (σ ρ : Mem) : Prop := ∀ b, b < 3 → (σ.1 122 b = 0 ∧ ρ.1 1050 b = 0) ∨ (σ.1 122 b = 1 ∧ ρ.1 1050 b = 1 ∧ ∃ s, okN T s ∧ rowR (tN T) s (fun k => σ.1 121 (63 * b + k)) ∧ rowR (tN T) s (fun k => ρ.1 1051 (64 * b + k)))
def I_step (T : Tn) (σ ρ : Mem) : Prop := ∃ c tm, c ≤ 30 ∧ tm ≤ 100000 ∧ σ.1 114 6 = nI c ∧ ρ.1 1000 86 = nI c ∧ σ.1 114 7 = nI tm ∧ ρ.1 1000 87 = nI tm ∧
  ∀ i, i < c → (∃ p, p < tN T ∧ σ.1 115 i = nI p ∧ ρ.1 1045 i = nI p) ∧ (∃ h, h < tD T ∧ σ.1 116 i = nI h ∧ ρ.1 1046 i = nI h) ∧ σ.1 117 i = ρ.1 1047 i ∧ σ.1 118 i = ρ.1 1048 i ∧ σ.1 119 i = ρ.1 1049 i ∧ (σ.1 119 i = -1 ∨ 0 ≤ σ.1 119 i)
def I_lies (σ ρ : Mem) : Prop := ∃ m, m ≤ 6 ∧ σ.1 0 14 = nI m ∧ ρ.1 1000 75 = nI m ∧ ∀ i, i < m → σ.1 123 i = ρ.1 1042 i
/-- bytes: the class's are signed -/
def byR (a b : Int32) : Prop := ∃ v, v < 256 ∧ b = nI v ∧ a = (nI v).toInt8.toInt32
def I_tape (σ ρ : Mem) : Prop := ∃ k, k ≤ 1600 ∧ σ.1 0 13 = nI k ∧ ρ.1 1000 1 = nI k ∧ ∀ i, i < k → byR (σ.1 1 i) (ρ.1 1001 i)
def I_fault (σ ρ : Mem) : Prop := σ.1 2 5 = ρ.1 1000 2 ∧ σ.1 2 6 = ρ.1 1000 3
def I_misc (σ ρ : Mem) : Prop := (∀ i, i < 7 → σ.1 66 i = nI (69 + 6 * i)) ∧ ∀ w, w < 3 → ∃ m, m ≤ 320 ∧ ρ.1 1005 w = nI m
def InvR (σ ρ : Mem) : Prop := ∃ t T s, I_town t T σ ρ ∧ I_now T s σ ρ ∧ I_hist T s σ ρ ∧ I_box T σ ρ ∧ I_step T σ ρ ∧ I_lies σ ρ ∧ I_tape σ ρ ∧ I_fault σ ρ ∧ I_misc σ ρ
def Inv (σ : Mem) : Prop := InvR σ σ
/-! keeping -/
theorem MPg.keepA {T : Tn} {ρ ρ' : Mem} {w : Nat} (h : MPg T ρ w) (e6 : ρ'.1 1006 = ρ.1 1006) (e7 : ρ'.1 1007 = ρ.1 1007) (e8 : ρ'.1 1008 = ρ.1 1008) (e : ρ'.1 1000 (52 + w) = ρ.1 1000 (52 + w)) : MPg T ρ' w := h.keep e6 e7 e8 e
theorem MN.keep {T : Tn} {ρ ρ' : Mem} {L : List Nat} {K : List (Nat × Nat)} (h : MN T ρ) (g : Fr L K ρ ρ') (c : offL L K [1006, 1007, 1008, 1020, 1021, 1022, 1023, 1024, 1025] [(1000, 45), (1000, 46), (1000, 52), (1000, 53), (1000, 54)] = true) : MN T ρ' := by
  have g := g.off c
  have e6 := g.1 1006 (by decide)
  have e7 := g.1 1007 (by decide)
  have e8 := g.1 1008 (by decide)
  refine ⟨(g.2 _ _ (by decide)).trans h.1, (g.2 _ _ (by decide)).trans h.2.1, fun p hp => ?_, h.2.2.2.1.keep e6 e7 e8 (g.2 _ _ (by decide)), h.2.2.2.2.1.keep e6 e7 e8 (g.2 _ _ (by decide)), h.2.2.2.2.2.keep e6 e7 e8 (g.2 _ _ (by decide))⟩
  rw [g.1 1020 (by decide), g.1 1021 (by decide), g.1 1022 (by decide), g.1 1023 (by decide), g.1 1024 (by decide), g.1 1025 (by decide)]
  exact h.2.2.1 p hp
/-- cells of both towns that must stay -/
def twA : List Nat := [7, 8, 9, 10, 11, 12, 13, 14, 15, 16, 17, 18, 20, 21, 22, 23, 25, 26, 27, 28, 30, 124, 125, 126, 127, 128, 129, 130, 131, 132, 133, 134, 135, 137, 138, 139, 140, 142, 143, 144, 145, 147]
theorem twA_mem {t a : Nat} (ht : t = 7 ∨ t = 124) (h1 : t ≤ a) (h2 : a ≤ t + 23) (h3 : a ≠ t + 12) (h4 : a ≠ t + 17) (h5 : a ≠ t + 22) : a ∈ twA := by
  unfold twA
  rcases ht with rfl | rfl <;> simp <;> omega
theorem CN.keep {T : Tn} {t : Nat} {σ σ' : Mem} (h : CN T t σ) (h9 : σ'.1 (t + 9) = σ.1 (t + 9)) (h13 : σ'.1 (t + 13) = σ.1 (t + 13)) : CN T t σ' := by
  unfold CN at h ⊢
  rw [h9, h13]
  exact h
section Keep
variable {σ σ' ρ ρ' : Mem} {L L' : List Nat} {K K' : List (Nat × Nat)} {T : Tn} {s : St} {t : Nat}
def tA : List Nat := [1006, 1007, 1008, 1020, 1021, 1022, 1023, 1024, 1025]
def tB : List (Nat × Nat) := [(1000, 22), (1000, 45), (1000, 46), (1000, 52), (1000, 53), (1000, 54)]
theorem offL_sub {A A' : List Nat} {B B' : List (Nat × Nat)} (h : offL L K A B = true) (hA : ∀ a, a ∈ A' → a ∈ A) (hB : ∀ b, b ∈ B' → b ∈ B) : offL L K A' B' = true := by
  unfold offL at h ⊢
  rw [Bool.and_eq_true, List.all_eq_true, List.all_eq_true] at h ⊢
  exact ⟨fun a ha => h.1 a (hA a ha), fun b hb => h.2 b (hB b hb)⟩
theorem I_town.keep (h : I_town t T σ ρ) (f : Fr L K σ σ') (g : Fr L' K' ρ ρ') (c : offL L K twA [(0, 12), (2, 3)] = true) (c' : offL L' K' tA tB = true) : I_town t T σ' ρ' := by
  obtain ⟨h1, h2, h3, h4, h5, h6, h7, h8⟩ := h
  have f' := f.off c
  have g' := g.off c'
  have hk : ∀ a, t ≤ a → a ≤ t + 23 → a ≠ t + 12 → a ≠ t + 17 → a ≠ t + 22 → σ'.1 a = σ.1 a := fun a q1 q2 q3 q4 q5 => f'.1 a (twA_mem h1 q1 q2 q3 q4 q5)
  refine ⟨h1, (f'.2 _ _ (by decide)).trans h2, (f'.2 _ _ (by decide)).trans h3, h4, h5.keep hk, h6.keep (hk _ (by omega) (by omega) (by omega) (by omega) (by omega)) (hk _ (by omega) (by omega) (by omega) (by omega) (by omega)), h7.keep g (offL_sub c' (by decide) (by decide)), ?_⟩
  rw [hk t (by omega) (by omega) (by omega) (by omega) (by omega), h8]
  exact (g'.2 _ _ (by decide)).symm
theorem CS.keep {u : Nat} (h : CS T s σ u) (e0 : σ'.1 u = σ.1 u) (e1 : σ'.1 (u + 1) = σ.1 (u + 1)) (e2 : σ'.1 (u + 2) = σ.1 (u + 2)) (e3 : σ'.1 (u + 3) = σ.1 (u + 3)) (e4 : σ'.1 (u + 4) = σ.1 (u + 4)) (e5 : σ'.1 (u + 5) = σ.1 (u + 5)) : CS T s σ' u := by
  unfold CS
  rw [e0, e1, e2, e3, e4, e5]
  exact h
theorem I_now.keep (h : I_now T s σ ρ) (f : Fr L K σ σ') (g : Fr L' K' ρ ρ') (c : offL L K [31, 32, 33, 34, 35, 36] [] = true) (c' : offL L' K' [1028] [] = true) : I_now T s σ' ρ' := by
  have f' := f.off c
  have g' := g.off c'
  refine ⟨h.1, h.2.1.keep (f'.1 _ (by decide)) (f'.1 _ (by decide)) (f'.1 _ (by decide)) (f'.1 _ (by decide)) (f'.1 _ (by decide)) (f'.1 _ (by decide)), ?_⟩
  rw [g'.1 1028 (by decide)]
  exact h.2.2
theorem I_hist.keep (h : I_hist T s σ ρ) (f : Fr L K σ σ') (g : Fr L' K' ρ ρ') (c : offL L K [37, 38] [] = true) (c' : offL L' K' [1039] [(1000, 69), (1000, 70)] = true) : I_hist T s σ' ρ' := by
  have f' := f.off c
  have g' := g.off c'
  unfold I_hist
  rw [f'.1 37 (by decide), f'.1 38 (by decide), g'.1 1039 (by decide), g'.2 1000 69 (by decide), g'.2 1000 70 (by decide)]
  exact h
theorem I_box.keep (h : I_box T σ ρ) (f : Fr L K σ σ') (g : Fr L' K' ρ ρ') (c : offL L K [121, 122] [] = true) (c' : offL L' K' [1050, 1051] [] = true) : I_box T σ' ρ' := by
  have f' := f.off c
  have g' := g.off c'
  unfold I_box
  rw [f'.1 121 (by decide), f'.1 122 (by decide), g'.1 1050 (by decide), g'.1 1051 (by decide)]
  exact h
theorem I_step.keep (h : I_step T σ ρ) (f : Fr L K σ σ') (g : Fr L' K' ρ ρ') (c : offL L K [115, 116, 117, 118, 119] [(114, 6), (114, 7)] = true) (c' : offL L' K' [1045, 1046, 1047, 1048, 1049] [(1000, 86), (1000, 87)] = true) : I_step T σ' ρ' := by
  have f' := f.off c
  have g' := g.off c'
  unfold I_step
  rw [f'.1 115 (by decide), f'.1 116 (by decide), f'.1 117 (by decide), f'.1 118 (by decide), f'.1 119 (by decide), f'.2 114 6 (by decide), f'.2 114 7 (by decide), g'.1 1045 (by decide), g'.1 1046 (by decide), g'.1 1047 (by decide), g'.1 1048 (by decide), g'.1 1049 (by decide), g'.2 1000 86 (by decide), g'.2 1000 87 (by decide)]
  exact h
theorem I_lies.keep (h : I_lies σ ρ) (f : Fr L K σ σ') (g : Fr L' K' ρ ρ') (c : offL L K [123] [(0, 14)] = true) (c' : offL L' K' [1042] [(1000, 75)] = true) : I_lies σ' ρ' := by
  have f' := f.off c
  have g' := g.off c'
  unfold I_lies
  rw [f'.1 123 (by decide), f'.2 0 14 (by decide), g'.1 1042 (by decide), g'.2 1000 75 (by decide)]
  exact h
theorem I_tape.keep (h : I_tape σ ρ) (f : Fr L K σ σ') (g : Fr L' K' ρ ρ') (c : offL L K [1] [(0, 13)] = true) (c' : offL L' K' [1001] [(1000, 1)] = true) : I_tape σ' ρ' := by
  have f' := f.off c
  have g' := g.off c'
  unfold I_tape
  rw [f'.1 1 (by decide), f'.2 0 13 (by decide), g'.1 1001 (by decide), g'.2 1000 1 (by decide)]
  exact h
theorem I_fault.keep (h : I_fault σ ρ) (f : Fr L K σ σ') (g : Fr L' K' ρ ρ') (c : offL L K [] [(2, 5), (2, 6)] = true) (c' : offL L' K' [] [(1000, 2), (1000, 3)] = true) : I_fault σ' ρ' := by
  have f' := f.off c
  have g' := g.off c'
  unfold I_fault
  rw [f'.2 2 5 (by decide), f'.2 2 6 (by decide), g'.2 1000 2 (by decide), g'.2 1000 3 (by decide)]
  exact h
theorem I_misc.keep (h : I_misc σ ρ) (f : Fr L K σ σ') (g : Fr L' K' ρ ρ') (c : offL L K [66] [] = true) (c' : offL L' K' [1005] [] = true) : I_misc σ' ρ' := by
  have f' := f.off c
  have g' := g.off c'
  unfold I_misc
  rw [f'.1 66 (by decide), g'.1 1005 (by decide)]
  exact h
def esA : List Nat := twA ++ [31, 32, 33, 34, 35, 36, 37, 38, 121, 122, 115, 116, 117, 118, 119, 123, 1, 66]
def esB : List (Nat × Nat) := [(0, 12), (2, 3), (114, 6), (114, 7), (0, 14), (0, 13), (2, 5), (2, 6)]
def esC : List Nat := tA ++ [1028, 1039, 1050, 1051, 1045, 1046, 1047, 1048, 1049, 1042, 1001, 1005]
def esD : List (Nat × Nat) := tB ++ [(1000, 69), (1000, 70), (1000, 86), (1000, 87), (1000, 75), (1000, 1), (1000, 2), (1000, 3)]
theorem InvR.keep (h : InvR σ ρ) (f : Fr L K σ σ') (g : Fr L' K' ρ ρ') (c : offL L K esA esB = true) (c' : offL L' K' esC esD = true) : InvR σ' ρ' := by
  obtain ⟨t, T, s, h1, h2, h3, h4, h5, h6, h7, h8, h9⟩ := h
  have k : ∀ (A : List Nat) (B : List (Nat × Nat)), (∀ a, a ∈ A → a ∈ esA) → (∀ b, b ∈ B → b ∈ esB) → offL L K A B = true := fun A B x y => offL_sub c x y
  have k' : ∀ (A : List Nat) (B : List (Nat × Nat)), (∀ a, a ∈ A → a ∈ esC) → (∀ b, b ∈ B → b ∈ esD) → offL L' K' A B = true := fun A B x y => offL_sub c' x y
  exact ⟨t, T, s, h1.keep f g (k _ _ (by decide) (by decide)) (k' _ _ (by decide) (by decide)), h2.keep f g (k _ _ (by decide) (by decide)) (k' _ _ (by decide) (by decide)), h3.keep f g (k _ _ (by decide) (by decide)) (k' _ _ (by decide) (by decide)), h4.keep f g (k _ _ (by decide) (by decide)) (k' _ _ (by decide) (by decide)), h5.keep f g (k _ _ (by decide) (by decide)) (k' _ _ (by decide) (by decide)), h6.keep f g (k _ _ (by decide) (by decide)) (k' _ _ (by decide) (by decide)), h7.keep f g (k _ _ (by decide) (by decide)) (k' _ _ (by decide) (by decide)), h8.keep f g (k _ _ (by decide) (by decide)) (k' _ _ (by decide) (by decide)), h9.keep f g (k _ _ (by decide) (by decide)) (k' _ _ (by decide) (by decide))⟩
end Keep
/-- class and reference, each in its own memory -/
def Stp2 (f g : Mem → Option (Int32 × Mem)) : Prop := ∀ σ ρ, InvR σ ρ → ∃ (r : Int32) (σ' ρ' : Mem), f σ = some (r, σ') ∧ g ρ = some (r, ρ') ∧ InvR σ' ρ'
theorem stp {f g : Mem → Option (Int32 × Mem)} {L L' : List Nat} {K K' : List (Nat × Nat)} (hf : ∀ σ, FR L K ms σ (f σ)) (hg : ∀ σ, FR L' K' ms σ (g σ)) (c : offL L K esC esD = true) (c' : offL L' K' esA esB = true) (h : Stp2 f g) : StpI Inv f g := by
  intro σ hI
  obtain ⟨r, σ1, _, e1, _, _⟩ := h σ σ hI
  have h1 : InvR σ σ1 := InvR.keep hI (L := []) (K := []) Fr.refl (hf σ _ e1) (by decide) c
  obtain ⟨r', σ1', ρ', e1', e2, h2⟩ := h σ σ1 h1
  rw [e1] at e1'
  cases e1'
  exact ⟨r, σ1, ρ', e1, e2, InvR.keep h2 (hg σ1 _ e2) (L' := []) (K' := []) Fr.refl c' (by decide)⟩
/-- a call that leaves the invariant's cells alone, and gives the same answer on both sides -/
theorem stpQ {f g : Mem → Option (Int32 × Mem)} {L L' : List Nat} {K K' : List (Nat × Nat)} (hf : ∀ σ, FR L K ms σ (f σ)) (hg : ∀ σ, FR L' K' ms σ (g σ)) (c : offL L K (esA ++ esC) (esB ++ esD) = true) (c' : offL L' K' (esA ++ esC) (esB ++ esD) = true)
    (h : ∀ σ ρ, InvR σ ρ → ∃ r : Int32, Ok (f σ) (fun x => x.1 = r) ∧ Ok (g ρ) (fun x => x.1 = r)) : StpI Inv f g := by
  refine stp hf hg (offL_sub c (fun a ha => List.mem_append_right _ ha) (fun a ha => List.mem_append_right _ ha)) (offL_sub c' (fun a ha => List.mem_append_left _ ha) (fun a ha => List.mem_append_left _ ha)) ?_
  intro σ ρ hI
  obtain ⟨r, ⟨⟨r1, σ1⟩, e1, h1⟩, ⟨⟨r2, ρ1⟩, e2, h2⟩⟩ := h σ ρ hI
  have h1 : r1 = r := h1
  have h2 : r2 = r := h2
  subst h1
  subst h2
  exact ⟨_, σ1, ρ1, e1, e2, hI.keep (hf σ _ e1) (hg ρ _ e2) (offL_sub c (fun a ha => List.mem_append_left _ ha) (fun a ha => List.mem_append_left _ ha)) (offL_sub c' (fun a ha => List.mem_append_right _ ha) (fun a ha => List.mem_append_right _ ha))⟩
