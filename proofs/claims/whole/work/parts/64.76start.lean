/-! town: the reading begins -/
theorem fill5_ok {a al : Nat} {v : Int32} (hal : al ≤ 1000) : ∀ (r i n : Nat) (σ : Mem), i + r = al → r < n → Ok (J7_fill_53178_5 a al n v (nI i) (nI al) σ) (fun σ' => ∀ c d, σ'.1 c d = if c = a ∧ i ≤ d ∧ d < al then v else σ.1 c d)
  | 0, i, n, σ, h1, h2 => by
    obtain ⟨n, rfl⟩ : ∃ j, n = j + 1 := ⟨n - 1, by omega⟩
    rw [J7_fill_53178_5]
    refine ok_pos ((ni_le (by omega) (by omega)).mpr (by omega)) (ok_some (fun c d => ?_))
    rw [if_neg (by omega)]
  | r + 1, i, n, σ, h1, h2 => by
    obtain ⟨n, rfl⟩ : ∃ j, n = j + 1 := ⟨n - 1, by omega⟩
    rw [J7_fill_53178_5]
    refine ok_neg (by rw [ni_le (by omega) (by omega)]; omega) (ok_pos (ib_t (by omega) (by omega)) (ok_bv (ok_bv ?_)))
    rw [ni_cl (by omega), ni_succ]
    refine ok_mono (fill5_ok hal r (i + 1) n _ (by omega) (by omega)) (fun σ' g c d => ?_)
    rw [g c d, sI_r]
    by_cases z : c = a ∧ i ≤ d ∧ d < al
    · rw [if_pos z]
      by_cases y : d = i
      · rw [if_neg (by omega), if_pos ⟨z.1, y⟩]
      · rw [if_pos (by omega)]
    · rw [if_neg z, if_neg (by omega), if_neg (by omega)]
theorem fgt_ok {o : Nat} {σ : Mem} : Ok (X2_forget o σ) (fun σ' => ∀ c d, σ'.1 c d = if c = o ∧ 4 ≤ d ∧ d ≤ 7 then 0 else σ.1 c d) := by
  unfold X2_forget
  refine ok_bv (ok_bv (ok_bv (ok_bv (ok_some (fun c d => ?_)))))
  rw [sI_r, sI_r, sI_r, sI_r]
  by_cases z : c = o ∧ 4 ≤ d ∧ d ≤ 7
  · rw [if_pos z]
    by_cases z7 : d = 7
    · rw [if_pos ⟨z.1, z7⟩]
    rw [if_neg (by omega)]
    by_cases z6 : d = 6
    · rw [if_pos ⟨z.1, z6⟩]
    rw [if_neg (by omega)]
    by_cases z5 : d = 5
    · rw [if_pos ⟨z.1, z5⟩]
    rw [if_neg (by omega), if_pos (by omega)]
  · rw [if_neg z, if_neg (by omega), if_neg (by omega), if_neg (by omega), if_neg (by omega)]
theorem forget_ok {u : Nat} {σ : Mem} : Ok (X10_forget u σ) (fun σ' => (∀ d, d < 36 → σ'.1 (u + 8) d = 0) ∧ (∀ w, w < 3 → ∀ c, 4 ≤ c → c ≤ 7 → σ'.1 (u + 9 + 5 * w) c = 0) ∧ σ'.1 u 11 = nI 10 ∧ σ'.1 u 12 = nI 0 ∧ σ'.1 u 13 = nI 0 ∧ σ'.1 u 14 = nI 0 ∧ ∀ a c, ¬ (u ≤ a ∧ a ≤ u + 23) → σ'.1 a c = σ.1 a c) := by
  have e0 : Ok (J7_fill_53178 (u + 8) 36 0 σ) (fun σ' => ∀ c d, σ'.1 c d = if c = u + 8 ∧ 0 ≤ d ∧ d < 36 then 0 else σ.1 c d) := by
    have h := fill5_ok (a := u + 8) (al := 36) (v := 0) (by omega) 36 0 fu σ (by omega) (by decide)
    unfold J7_fill_53178
    rw [bv_eq, bv_eq]
    exact h
  unfold X10_forget
  refine ok_bind e0 (fun σ1 g1 => ok_bind fgt_ok (fun σ2 g2 => ok_bind fgt_ok (fun σ3 g3 => ok_bind fgt_ok (fun σ4 g4 => ok_bv (ok_bv (ok_bv (ok_bv (ok_some ?_))))))))
  have e : ∀ a c, ¬ (a = u ∧ 11 ≤ c ∧ c ≤ 14) → (sI (sI (sI (sI σ4 u 11 10) u 12 0) u 13 0) u 14 0).1 a c = σ4.1 a c := fun a c h => by
    rw [sI_r, if_neg (by omega), sI_r, if_neg (by omega), sI_r, if_neg (by omega), sI_r, if_neg (by omega)]
  refine ⟨fun d hd => ?_, fun w hw c h1 h2 => ?_, ?_, ?_, ?_, ?_, fun a c h => ?_⟩
  · rw [e _ _ (by omega), g4, if_neg (by omega), g3, if_neg (by omega), g2, if_neg (by omega), g1, if_pos (by omega)]
  · rw [e _ _ (by omega), g4]
    by_cases y2 : w = 2
    · rw [if_pos (by omega)]
    rw [if_neg (by omega), g3]
    by_cases y1 : w = 1
    · rw [if_pos (by omega)]
    rw [if_neg (by omega), g2, if_pos (by omega)]
  · rw [sI_k (by decide), sI_k (by decide), sI_k (by decide), sI_e]
    rfl
  · rw [sI_k (by decide), sI_k (by decide), sI_e]
    rfl
  · rw [sI_k (by decide), sI_e]
    rfl
  · rw [sI_e]
    rfl
  · rw [e _ _ (by omega), g4, if_neg (by omega), g3, if_neg (by omega), g2, if_neg (by omega), g1, if_neg (by omega)]
theorem r76_ok {α : Type} {s : Option α} {Q : α → Mem → Prop} : ∀ (r i n : Nat) (ρ : Mem), i + r = 36 → r < n → (∀ ρ' : Mem, (∀ a c, ρ'.1 a c = if a = 1019 ∧ i ≤ c ∧ c < 36 then 0 else ρ.1 a c) → ρ'.2 = ρ.2 → Ok2 s ((X12_token ρ').bind (X12_readAll_99 fu)) Q) → Ok2 s (X12_readAll_76 n (nI i) ρ) Q
  | 0, i, n, ρ, h1, h2, hQ => by
    obtain ⟨n, rfl⟩ : ∃ j, n = j + 1 := ⟨n - 1, by omega⟩
    rw [X12_readAll_76]
    refine o2_pr ((ni_le (a := 36) (by omega) (by omega)).mpr (by omega)) (hQ ρ (fun a c => ?_) rfl)
    rw [if_neg (by omega)]
  | r + 1, i, n, ρ, h1, h2, hQ => by
    obtain ⟨n, rfl⟩ : ∃ j, n = j + 1 := ⟨n - 1, by omega⟩
    rw [X12_readAll_76]
    refine o2_nr (by rw [show (36 : Int32) = nI 36 from rfl, ni_le (by omega) (by omega)]; omega) (o2_pr (ib_t (by omega) (by omega)) (o2_bvr (o2_bvr ?_)))
    rw [ni_cl (by omega), ni_succ]
    refine r76_ok r (i + 1) n _ (by omega) (by omega) (fun ρ' g g2 => hQ ρ' (fun a c => ?_) g2)
    rw [g a c, sI_r]
    by_cases z : a = 1019 ∧ i ≤ c ∧ c < 36
    · rw [if_pos z]
      by_cases y : c = i
      · rw [if_neg (by omega), if_pos ⟨z.1, y⟩]
      · rw [if_pos (by omega)]
    · rw [if_neg z, if_neg (by omega), if_neg (by omega)]
theorem read_ok {u k : Nat} {σ ρ : Mem} (hu : u = 7 ∨ u = 124) (hk : k ≤ 1600) (h13 : σ.1 0 13 = nI k) (h1 : ρ.1 1000 1 = nI k) (hby : ∀ i, i < k → byR (σ.1 1 i) (ρ.1 1001 i)) (h23 : σ.1 2 3 = nI u) (h5 : B5 ρ) :
    Ok2 (X5_read (σ.1 0 13) σ) (X12_readAll ρ) (fun t ρ' => FCu u σ t.2 ∧ ((t.1 = 1 ∧ t.2.1 2 5 = 0 ∧ ρ'.1 1000 2 = 0 ∧ t.2.1 2 6 = -1 ∧ ρ'.1 1000 3 = -1 ∧ ∃ b N D db all ns ne F, HT b k u N D db all ns ne F t.2 ρ') ∨ (t.1 = 0 ∧ PX t.2 ρ' ∧ B5 ρ'))) := by
  have hu3 : 3 < u := by omega
  obtain ⟨b, hbe⟩ : ∃ b : Nat → Nat, b = fun i => (ρ.1 1001 i).toNatClampNeg := ⟨_, rfl⟩
  have hbv : ∀ i, i < k → b i < 256 ∧ ρ.1 1001 i = nI (b i) ∧ σ.1 1 i = sg (b i) := fun i hi => by
    obtain ⟨v, v1, v2, v3⟩ := hby i hi
    have e : b i = v := by rw [hbe]; show (ρ.1 1001 i).toNatClampNeg = v; rw [v2, ni_cl (by omega)]
    rw [e]
    exact ⟨v1, v2, v3⟩
  have hb : TB b k := ⟨hk, fun i hi => (hbv i hi).1⟩
  unfold X5_read X12_readAll
  rw [h13]
  refine o2_bvl (o2_bvl ?_)
  rw [gT_u hu (show (sI (sI σ 2 5 0) 2 6 (-1)).1 2 3 = nI u by rw [sI_k (by decide), sI_k (by decide)]; exact h23)]
  obtain ⟨σ4, e4, k8, kF, k11, k12, k13, k14, kO⟩ := forget_ok (u := u) (σ := sI (sI σ 2 5 0) 2 6 (-1))
  refine o2_l e4 ?_
  have kO' : ∀ a c, ¬ (u ≤ a ∧ a ≤ u + 23) → ¬ (a = 2 ∧ (c = 5 ∨ c = 6)) → σ4.1 a c = σ.1 a c := fun a c g1 g2 => by
    rw [kO a c g1, sI_r, if_neg (by omega), sI_r, if_neg (by omega)]
  have k25 : σ4.1 2 5 = 0 := by rw [kO 2 5 (by omega), sI_k (by decide), sI_e]
  have k26 : σ4.1 2 6 = -1 := by rw [kO 2 6 (by omega), sI_e]
  unfold X9_begin
  have emin : imin (nI k) 1600 = nI k := by
    unfold imin
    rw [if_neg (by rw [show (1600 : Int32) = nI 1600 from rfl, ni_lt (by omega) (by omega)]; omega)]
  rw [emin]
  have hT : TC b k (sI (sI (sI σ4 3 0 (nI 1)) 3 1 (nI k)) 3 4 0) := by
    refine ⟨⟨?_, ?_⟩, ?_, fun i hi => ?_⟩
    · rw [sI_k (by decide), sI_k (by decide), sI_e]
    · rw [sI_n (by decide), sI_n (by decide), sI_n (by decide)]
      exact k26
    · rw [sI_k (by decide), sI_e]
    · rw [sI_n (by decide), sI_n (by decide), sI_n (by decide), kO' 1 i (by omega) (by omega)]
      exact (hbv i hi).2.2
  have hc4 : ∀ a c, a ≠ 3 → (sI (sI (sI σ4 3 0 (nI 1)) 3 1 (nI k)) 3 4 0).1 a c = σ4.1 a c := fun a c g => by rw [sI_n g, sI_n g, sI_n g]
  have h34 : (sI (sI (sI σ4 3 0 (nI 1)) 3 1 (nI k)) 3 4 0).1 3 4 = nI 0 := sI_e _ _ _ _
  show Ok2 ((((X9_next (sI (sI (sI σ4 3 0 (nI 1)) 3 1 (nI k)) 3 4 0)).bind fun σ4 => some σ4)).bind fun σ5 => X5_read_28 fu (nI 0) σ5) _ _
  generalize sI (sI (sI σ4 3 0 (nI 1)) 3 1 (nI k)) 3 4 0 = τ at *
  refine o2_bvr (o2_bvr (o2_bvr (o2_bvr (o2_bvr (o2_bvr (o2_bvr (o2_bvr (o2_bvr (o2_bvr (o2_bvr (o2_bvr (o2_bvr (o2_bvr (o2_bvr ?_))))))))))))))
  rw [h1]
  obtain ⟨ρi, hρi⟩ : ∃ y, y = sI (sI (sI (sI (sI (sI (sI (sI (sI (sI (sI (sI (sI (sI ρ 1000 5 (nI k)) 1000 1 0) 1000 4 0) 1000 2 0) 1000 3 (-1)) 1000 42 0) 1000 43 0) 1000 44 10) 1000 47 0) 1000 48 0) 1000 49 0) 1000 50 0) 1000 51 0) 1000 21 0 := ⟨_, rfl⟩
  rw [← hρi]
  have i5 : ρi.1 1000 5 = nI k := by rw [hρi]; simp [sI_r]
  have i4 : ρi.1 1000 4 = nI 0 := by rw [hρi]; simp [sI_r]; rfl
  have i2 : ρi.1 1000 2 = 0 := by rw [hρi]; simp [sI_r]
  have i3 : ρi.1 1000 3 = -1 := by rw [hρi]; simp [sI_r]
  have i42 : ρi.1 1000 42 = nI 0 := by rw [hρi]; simp [sI_r]; rfl
  have i43 : ρi.1 1000 43 = nI 0 := by rw [hρi]; simp [sI_r]; rfl
  have i44 : ρi.1 1000 44 = nI 10 := by rw [hρi]; simp [sI_r]; rfl
  have i47 : ρi.1 1000 47 = 0 := by rw [hρi]; simp [sI_r]
  have i48 : ρi.1 1000 48 = 0 := by rw [hρi]; simp [sI_r]
  have i49 : ρi.1 1000 49 = 0 := by rw [hρi]; simp [sI_r]
  have i50 : ρi.1 1000 50 = 0 := by rw [hρi]; simp [sI_r]
  have i51 : ρi.1 1000 51 = 0 := by rw [hρi]; simp [sI_r]
  have i21 : ρi.1 1000 21 = nI 0 := by rw [hρi]; simp [sI_r]; rfl
  have iO : ∀ a c, a ≠ 1000 → ρi.1 a c = ρ.1 a c := fun a c g => by
    rw [hρi, sI_n g, sI_n g, sI_n g, sI_n g, sI_n g, sI_n g, sI_n g, sI_n g, sI_n g, sI_n g, sI_n g, sI_n g, sI_n g, sI_n g]
  clear hρi
  refine r76_ok 36 0 fu ρi (by omega) (by decide) (fun ρ' q1 _ => ?_)
  have qO : ∀ a c, a ≠ 1019 → ρ'.1 a c = ρi.1 a c := fun a c g => by rw [q1, if_neg (by omega)]
  have hM : TM b k ρ' := by
    refine ⟨⟨by rw [qO _ _ (by decide)]; exact i5, by rw [qO _ _ (by decide)]; exact i3⟩, fun i hi => ?_⟩
    rw [qO _ _ (by decide), iO _ _ (by decide)]
    exact (hbv i hi).2.1
  rw [Option.bind_assoc]
  obtain ⟨σ5, e5, t5, f5⟩ := ok_fr (nextC_ok hb hT (Nat.zero_le _) h34) (fr_X9_next τ Fr.refl)
  obtain ⟨ρ5, e5', ⟨t5', l5'⟩, f5'⟩ := ok_fr (tokenM_ok hb hM (Nat.zero_le _) (by rw [qO _ _ (by decide)]; exact i4)) (fr_X12_token ρ' Fr.refl)
  have kc : ∀ a c, a ≠ 3 → σ5.1 a c = σ4.1 a c := fun a c g => (f5.1 a c (by unfold L_X9_next; simp) (by unfold K_X9_next; simp; omega)).trans (hc4 a c g)
  have km : ∀ a c, a < 5000 → (a = 1000 → 8 < c ∨ c = 5 ∨ c < 4) → ρ5.1 a c = ρ'.1 a c := fun a c g1 g2 => f5'.1 a c (by unfold L_X12_token; simp; omega) (by unfold K_X12_token; simp; omega)
  refine o2_l e5 (o2_l rfl (o2_r e5' ?_))
  have hPT : PT b k (nxt b k 0) σ5 ρ5 := ⟨t5, t5', (nxt_wf (Nat.zero_le _)).1, (kc 2 5 (by decide)).trans k25, by rw [km _ _ (by decide) (by omega), qO _ _ (by decide)]; exact i2⟩
  have hHT : HT b k u 0 10 0 0 (fun _ => 0) (fun _ => 0) (fun _ => none) σ5 ρ5 := by
    refine ⟨⟨?_, ⟨?_, ?_, by omega⟩, ⟨?_, ?_, by omega, by omega⟩, ⟨?_, ?_, by omega⟩, ?_, ?_, by omega⟩, fun p hp => by omega, fun i j hi hj => ⟨0, by omega, ?_, ?_, fun _ => rfl⟩, ⟨fun p hp => by omega, fun p hp => by omega, fun p q hp => by omega⟩, fun w hw => ⟨?_, ?_, ?_, ?_, ?_, ?_⟩⟩
    · rw [kc _ _ (by decide), kO' _ _ (by omega) (by omega)]
      exact h23
    · rw [kc _ _ (by omega)]
      exact k12
    · rw [km _ _ (by decide) (by omega), qO _ _ (by decide)]
      exact i42
    · rw [kc _ _ (by omega)]
      exact k11
    · rw [km _ _ (by decide) (by omega), qO _ _ (by decide)]
      exact i44
    · rw [kc _ _ (by omega)]
      exact k13
    · rw [km _ _ (by decide) (by omega), qO _ _ (by decide)]
      exact i43
    · rw [kc _ _ (by omega)]
      exact k14
    · rw [km _ _ (by decide) (by omega), qO _ _ (by decide)]
      exact i21
    · rw [kc _ _ (by omega)]
      exact k8 _ (by omega)
    · rw [km _ _ (by decide) (by omega), q1, if_pos (by omega)]
      rfl
    · rw [kc _ _ (by omega)]
      exact kF w hw 4 (by omega) (by omega)
    · rw [kc _ _ (by omega)]
      exact kF w hw 5 (by omega) (by omega)
    · rw [kc _ _ (by omega)]
      exact kF w hw 6 (by omega) (by omega)
    · rw [kc _ _ (by omega)]
      exact kF w hw 7 (by omega) (by omega)
    · rw [km _ _ (by decide) (by omega), qO _ _ (by decide)]
      match w, hw with
      | 0, _ => exact i49
      | 1, _ => exact i50
      | 2, _ => exact i51
      | n + 3, h => exact absurd h (by omega)
    · rw [km _ _ (by decide) (by omega), qO _ _ (by decide), iO _ _ (by decide)]
      exact h5 w hw
  have hFC : FCu u σ σ5 := fun a c g => by
    rw [kc a c (by omega), kO' a c (by omega) (by omega)]
  refine o2_mono (lines_ok hb hu 1600 0 fu fu (nxt b k 0) σ5 ρ5 ⟨hPT, 0, 10, 0, 0, _, _, _, hHT, fun _ => ⟨rfl, ?_, ?_⟩, fun e => by omega⟩ hFC (Nat.zero_le _) (by omega) (by unfold fu; omega) (by unfold fu; omega)) (fun t ρ6 g => ⟨g.1, g.2.imp (fun g => ⟨g.1, g.2.1, g.2.2.1, g.2.2.2.1, g.2.2.2.2.1, b, g.2.2.2.2.2⟩) id⟩)
  · rw [km _ _ (by decide) (by omega), qO _ _ (by decide)]
    exact i47
  · rw [km _ _ (by decide) (by omega), qO _ _ (by decide)]
    exact i48
