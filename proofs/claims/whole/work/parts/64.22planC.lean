/-! plan: the class -/
def Kp (t i : Nat) (σ σ' : Mem) : Prop := ∀ a b, ¬ (63 ≤ a ∧ a ≤ 65) → a ≠ 68 → ¬ (69 + 6 * (i + 1) ≤ a ∧ a ≤ 110) → a ≠ t + 12 → a ≠ t + 17 → a ≠ t + 22 → ¬ (a = 61 ∧ b = 4) → ¬ (a = 67 ∧ i ≤ b) → σ'.1 a b = σ.1 a b
theorem Kp.refl {t i : Nat} {σ : Mem} : Kp t i σ σ := fun _ _ _ _ _ _ _ _ _ _ => rfl
theorem Kp.trans {t i : Nat} {σ σ1 σ2 : Mem} (h : Kp t i σ σ1) (g : Kp t i σ1 σ2) : Kp t i σ σ2 := fun a b h1 h2 h3 h4 h5 h6 h7 h8 => (g a b h1 h2 h3 h4 h5 h6 h7 h8).trans (h a b h1 h2 h3 h4 h5 h6 h7 h8)
theorem Kp.up {t i : Nat} {σ σ1 : Mem} (h : Kp t (i + 1) σ σ1) : Kp t i σ σ1 := fun a b h1 h2 h3 h4 h5 h6 h7 h8 => h a b h1 h2 (by omega) h4 h5 h6 h7 (by omega)
def PC (T : Tn) (t x K : Nat) (σ : Mem) : Prop := CT T t σ ∧ σ.1 61 3 = nI x ∧ σ.1 61 6 = nI K ∧ ∀ i, i < 7 → σ.1 66 i = nI (69 + 6 * i)
theorem PC.keep {T : Tn} {t x K i : Nat} {σ σ' : Mem} (h : PC T t x K σ) (ht : t = 7 ∨ t = 124) (k : Kp t i σ σ') : PC T t x K σ' := by
  refine ⟨h.1.keep (fun a g1 g2 g3 g4 g5 => ?_), (k _ _ (by omega) (by omega) (by omega) (by omega) (by omega) (by omega) (by omega) (by omega)).trans h.2.1, (k _ _ (by omega) (by omega) (by omega) (by omega) (by omega) (by omega) (by omega) (by omega)).trans h.2.2.1, fun j hj => (k _ _ (by omega) (by omega) (by omega) (by omega) (by omega) (by omega) (by omega) (by omega)).trans (h.2.2.2 j hj)⟩
  funext b
  exact k a b (by omega) (by omega) (by omega) (by omega) (by omega) (by omega) (by omega) (by omega)
theorem CS.kp {T : Tn} {g : St} {t i l : Nat} {σ σ' : Mem} (h : CS T g σ (69 + 6 * l)) (hl : l ≤ i) (hi : i < 7) (ht : t = 7 ∨ t = 124) (k : Kp t i σ σ') : CS T g σ' (69 + 6 * l) := by
  have e : ∀ a, 69 + 6 * l ≤ a → a ≤ 69 + 6 * l + 5 → σ'.1 a = σ.1 a := fun a h1 h2 => by
    funext b
    exact k a b (by omega) (by omega) (by omega) (by omega) (by omega) (by omega) (by omega) (by omega)
  exact h.keep (e _ (by omega) (by omega)) (e _ (by omega) (by omega)) (e _ (by omega) (by omega)) (e _ (by omega) (by omega)) (e _ (by omega) (by omega)) (e _ (by omega) (by omega))
theorem gS_ok {α : Type} {i : Nat} (hi : i < 7) (f : Nat → Option α) : gS (nI (69 + 6 * i)) (nI i) f = f (69 + 6 * i) := by
  unfold gS
  rw [ni_cl (by omega), if_pos ⟨ib_t hi (by omega), rfl⟩]
theorem payLoop_ok {T : Tn} {t x c K L i : Nat} (hT : okT T) (ht : t = 7 ∨ t = 124) (hx : x < tN T) (hc : c < tN T) (hi : i < 6) (hL : L ≤ 301) : ∀ (f n h : Nat) (g : St) (σ : Mem), f + h = 301 → f < n → PG T x g → g 2 x = nI c → (g 0 7).toInt + f ≤ 3000 → PC T t x K σ → σ.1 61 4 = nI L → CS T g σ (69 + 6 * (i + 1)) →
    Ok (X4_payOff_36 t (69 + 6 * (i + 1)) n (nI c) (nI h) σ) (fun r => Kp t i σ r.2 ∧ r.2.1 61 4 = nI L ∧ r.2.1 67 = σ.1 67 ∧ r.2.1 68 = σ.1 68 ∧ ((L ≤ h + (payT T x c f g).1 ∧ r.1 = nI L) ∨ (h + (payT T x c f g).1 < L ∧ r.1 = nI (h + (payT T x c f g).1) ∧ CS T (payT T x c f g).2 r.2 (69 + 6 * (i + 1))))) := by
  have hn6 := hT.1
  intro f
  induction f with
  | zero =>
    intro n h g σ h1 h2 h3 h4 h5 h6 h7 h8
    obtain ⟨n, rfl⟩ : ∃ q, n = q + 1 := ⟨n - 1, by omega⟩
    rw [X4_payOff_36, h7]
    refine ok_pos (by rw [ni_le (by omega) (by omega)]; omega) (ok_some ⟨Kp.refl, h7, rfl, rfl, .inl ⟨by omega, rfl⟩⟩)
  | succ f ih =>
    intro n h g σ h1 h2 h3 h4 h5 h6 h7 h8
    obtain ⟨n, rfl⟩ : ∃ q, n = q + 1 := ⟨n - 1, by omega⟩
    rw [X4_payOff_36, h7]
    refine ok_ite (fun z => ?_) (fun z => ?_)
    · rw [ni_le (by omega) (by omega)] at z
      exact ok_some ⟨Kp.refl, h7, rfl, rfl, .inl ⟨by omega, rfl⟩⟩
    · rw [ni_le (by omega) (by omega)] at z
      rw [h6.2.1]
      refine ok_bindE (cell_ok σ) (ok_pos (ib_t (by omega) (by omega)) ?_)
      rw [ni_cl (by omega)]
      show Ok (if σ.1 (69 + 6 * (i + 1) + 5) (6 * x + c) = 0 then some (nI h, σ) else _) _
      rw [h8.2.1 _ (by omega)]
      unfold payT
      refine ok_ite (fun y => ?_) (fun y => ?_)
      · rw [if_pos y]
        exact ok_some ⟨Kp.refl, h7, rfl, rfl, .inr ⟨by show h + 0 < L; omega, rfl, h8⟩⟩
      · rw [if_neg y]
        obtain ⟨a1, a2, a3⟩ := PG_hour hT h3 hx h4 hc (by omega)
        have hsep : sep 62 t (69 + 6 * (i + 1)) := by unfold sep; omega
        refine ok_bind (ok_fr (pass_ok hT h3.1 hsep h6.1 h8) (fr_X0_pass _ _ _ _ Fr.refl)) ?_
        rintro ⟨r, σ1⟩ ⟨⟨b1, b2, -⟩, f1⟩
        have f1 : Fr (L_X0_pass 62 t (69 + 6 * (i + 1))) (K_X0_pass 62 t (69 + 6 * (i + 1))) σ σ1 := f1
        have k1 : Kp t i σ σ1 := fun a b g1 g2 g3 g4 g5 g6 g7 g8 => f1.1 a b (by simp [L_X0_pass]; omega) (by simp [K_X0_pass]; omega)
        have e67 : σ1.1 67 = σ.1 67 := by
          funext b
          exact f1.1 _ _ (by simp [L_X0_pass]; omega) (by simp [K_X0_pass]; omega)
        have e68 : σ1.1 68 = σ.1 68 := by
          funext b
          exact f1.1 _ _ (by simp [L_X0_pass]; omega) (by simp [K_X0_pass]; omega)
        have e61 : σ1.1 61 4 = nI L := by
          rw [← h7]
          exact f1.1 _ _ (by simp [L_X0_pass]; omega) (by simp [K_X0_pass])
        refine ok_bv ?_
        rw [ni_succ]
        have hpi := hourF_pastI h3.1
        refine ok_mono (ih n (h + 1) (hourF T g) σ1 (by omega) (by omega) a1 a2 (by omega) (h6.keep ht k1) e61 b2) ?_
        rintro ⟨r', σ2⟩ ⟨c1, c2, c3, c4, c5⟩
        refine ⟨k1.trans c1, c2, c3.trans e67, c4.trans e68, ?_⟩
        simp only []
        rw [show h + ((payT T x c f (hourF T g)).1 + 1) = h + 1 + (payT T x c f (hourF T g)).1 by omega]
        exact c5
theorem payOff_ok {T : Tn} {t x c K L i h : Nat} {g : St} {σ : Mem} (hT : okT T) (ht : t = 7 ∨ t = 124) (hx : x < tN T) (hc : c < tN T) (hcx : c ≠ x) (hi : i < 6) (hL : L ≤ 301) (hh : h ≤ 301) (hg : PG T x g) (hp : (g 0 7).toInt + (301 - h : Nat) ≤ 3000) (hP : PC T t x K σ) (h4 : σ.1 61 4 = nI L) (hs : CS T g σ (69 + 6 * i)) :
    Ok (X4_payOff t (nI i) (nI c) (nI h) σ) (fun r => Kp t i σ r.2 ∧ r.2.1 61 4 = nI L ∧ r.2.1 67 = σ.1 67 ∧ r.2.1 68 = σ.1 68 ∧ ((L ≤ h + (payT T x c (301 - h) (aimS g x (nI c))).1 ∧ r.1 = nI L) ∨ (h + (payT T x c (301 - h) (aimS g x (nI c))).1 < L ∧ r.1 = nI (h + (payT T x c (301 - h) (aimS g x (nI c))).1) ∧ CS T (payT T x c (301 - h) (aimS g x (nI c))).2 r.2 (69 + 6 * (i + 1))))) := by
  have hn6 := hT.1
  unfold X4_payOff
  rw [ni_succ, ni_cl (by omega), ni_cl (by omega), hP.2.2.2 (i + 1) (by omega), hP.2.2.2 i (by omega), gS_ok (by omega), gS_ok (by omega)]
  refine ok_bind (ok_fr (copy_ok (a := 69 + 6 * (i + 1)) (b := 69 + 6 * i) hT (by omega) hs) (fr_X7_copy _ _ _ Fr.refl)) ?_
  rintro σ1 ⟨a1, f1⟩
  have f1 : Fr (L_X7_copy (69 + 6 * (i + 1)) (69 + 6 * i)) (K_X7_copy (69 + 6 * (i + 1)) (69 + 6 * i)) σ σ1 := f1
  have k1 : Kp t i σ σ1 := fun a b g1 g2 g3 g4 g5 g6 g7 g8 => f1.1 a b (by simp [L_X7_copy]; omega) (by simp [K_X7_copy]; omega)
  have e61 : σ1.1 61 = σ.1 61 := by
    funext b
    exact f1.1 _ _ (by simp [L_X7_copy]; omega) (by simp [K_X7_copy]; omega)
  have e67 : σ1.1 67 = σ.1 67 := by
    funext b
    exact f1.1 _ _ (by simp [L_X7_copy]; omega) (by simp [K_X7_copy]; omega)
  have e68 : σ1.1 68 = σ.1 68 := by
    funext b
    exact f1.1 _ _ (by simp [L_X7_copy]; omega) (by simp [K_X7_copy]; omega)
  rw [e61, hP.2.1]
  refine ok_pos (ib_t (by omega) (by omega)) (ok_bv ?_)
  rw [ni_cl (by omega)]
  have k2 : Kp t i σ (sI σ1 (69 + 6 * (i + 1) + 2) x (nI c)) := fun a b g1 g2 g3 g4 g5 g6 g7 g8 => by
    rw [sI_n (by omega)]
    exact k1 a b g1 g2 g3 g4 g5 g6 g7 g8
  obtain ⟨p1, p2⟩ := PG_aim hg hx hc hcx
  have hcs : CS T (aimS g x (nI c)) (sI σ1 (69 + 6 * (i + 1) + 2) x (nI c)) (69 + 6 * (i + 1)) := by
    refine ⟨fun p hp => ⟨?_, ?_, ?_, ?_⟩, fun k hk => ?_, ?_, ?_, ?_⟩
    · rw [sI_n (by omega)]
      exact (a1.1 p hp).1
    · rw [sI_o, (a1.1 p hp).2.1]
      unfold aimS
      by_cases z : p = x
      · rw [if_pos z, if_pos ⟨rfl, z⟩]
      · rw [if_neg z, if_neg (fun w => z w.2)]
    · rw [sI_n (by omega)]
      exact (a1.1 p hp).2.2.1
    · rw [sI_n (by omega)]
      exact (a1.1 p hp).2.2.2
    · rw [sI_n (by omega)]
      exact a1.2.1 k hk
    · rw [sI_n (by omega)]
      exact a1.2.2.1
    · rw [sI_n (by omega)]
      exact a1.2.2.2.1
    · rw [sI_n (by omega)]
      exact a1.2.2.2.2
  refine ok_mono (payLoop_ok (K := K) (L := L) (i := i) hT ht hx hc hi hL (301 - h) fu h (aimS g x (nI c)) _ (by omega) (by unfold fu; omega) p1 p2 hp (hP.keep ht k2) (by rw [sI_n (by omega), e61]; exact h4) hcs) ?_
  rintro ⟨r, σ2⟩ ⟨c1, c2, c3, c4, c5⟩
  have e67' : (sI σ1 (69 + 6 * (i + 1) + 2) x (nI c)).1 67 = σ1.1 67 := by funext b; exact sI_n (by omega) b
  have e68' : (sI σ1 (69 + 6 * (i + 1) + 2) x (nI c)).1 68 = σ1.1 68 := by funext b; exact sI_n (by omega) b
  exact ⟨k2.trans c1, c2, (c3.trans e67').trans e67, (c4.trans e68').trans e68, c5⟩
