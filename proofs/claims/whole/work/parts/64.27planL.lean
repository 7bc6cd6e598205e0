/-! plan: the reference lays an order -/
theorem tb_shr1 (x : Int32) {i : Nat} (hi : i < 32) : (x >>> (nI i &&& 31)) &&& 1 = 1 ↔ tb x i = true := by
  rw [tb_shr x hi]
  cases tb x i with
  | false => exact ⟨fun h => absurd h (by decide), fun h => by cases h⟩
  | true => exact ⟨fun _ => rfl, fun _ => rfl⟩
section Lay
variable {K35 : Int32 → Int32 → Int32 → Int32 → Mem → Option Mem} {Q : Mem → Prop} {m x3 x4 : Int32} {ρ : Mem} {K i : Nat}
theorem lay108_ok {k100 : Int32 → Int32 → Int32 → Int32 → Int32 → Int32 → Mem → Option Mem} {x5 x6 : Int32} {u : Nat} {l : List Nat} (hk : unt m (K - u - 1) (u + 1) = l → tb m u = false → u < K → Ok (k100 m x3 x4 x5 (x6 + (-1)) (nI u) ρ) Q) (hK : K ≤ 6) : ∀ (r j n : Nat), j + r = K → r < n → unt m r j = u :: l → Ok (X12_layOrder_108 k100 n m x3 x4 x5 x6 (nI j) ρ) Q
  | 0, _, _, _, _, h => by simp [unt] at h
  | r + 1, j, n, h1, h2, h => by
    obtain ⟨n, rfl⟩ : ∃ q, n = q + 1 := ⟨n - 1, by omega⟩
    rw [unt_s] at h
    rw [X12_layOrder_108]
    refine ok_ite (fun z => ?_) (fun z => ?_)
    · rw [tb_shr1 m (by omega)] at z
      rw [if_pos z] at h
      refine ok_bv ?_
      rw [ni_succ]
      exact lay108_ok hk hK r (j + 1) n (by omega) (by omega) h
    · rw [tb_shr1 m (by omega)] at z
      rw [if_neg z] at h
      have e1 : j = u := (List.cons.inj h).1
      have e2 := (List.cons.inj h).2
      subst e1
      refine ok_bv (hk ?_ (by simpa using z) (by omega))
      rw [show K - j - 1 = r by omega]
      exact e2
theorem lay100_ok (hK : K ≤ 6) (hi : i < 6) {w : Nat} (hk : w < K → Ok (K35 (m ||| (1 <<< (nI w &&& 31))) x3 x4 (nI (i + 1)) (sI ρ 1041 i (ρ.1 1040 w))) Q) : ∀ (d u n : Nat), d < n → u < K → (u :: unt m (K - u - 1) (u + 1))[d]? = some w → Ok (X12_layOrder_100 K35 n m x3 x4 (nI i) (nI d) (nI u) ρ) Q
  | 0, u, n, h1, h2, h => by
    obtain ⟨n, rfl⟩ : ∃ q, n = q + 1 := ⟨n - 1, by omega⟩
    have e : u = w := by simpa using h
    subst e
    rw [X12_layOrder_100]
    refine ok_pos (Int32.le_refl _) (ok_bv (ok_pos (ib_t (by omega) (by omega)) (ok_pos (ib_t (by omega) (by omega)) (ok_bv (ok_bv ?_)))))
    rw [ni_cl (by omega), ni_cl (by omega), ni_succ]
    exact hk h2
  | d + 1, u, n, h1, h2, h => by
    obtain ⟨n, rfl⟩ : ∃ q, n = q + 1 := ⟨n - 1, by omega⟩
    have h : (unt m (K - u - 1) (u + 1))[d]? = some w := by simpa using h
    have hd : d < K := by
      have h3 : d < (unt m (K - u - 1) (u + 1)).length := by
        rcases Nat.lt_or_ge d (unt m (K - u - 1) (u + 1)).length with g | g
        · exact g
        · rw [List.getElem?_eq_none g] at h
          cases h
      have : ∀ r j, (unt m r j).length ≤ r := by
        intro r
        induction r with
        | zero => intro j; exact Nat.le_refl _
        | succ r ih =>
          intro j
          rw [unt_s]
          have := ih (j + 1)
          split
          · omega
          · rw [List.length_cons]
            omega
      have := this (K - u - 1) (u + 1)
      omega
    rw [X12_layOrder_100]
    refine ok_neg (by rw [show (0 : Int32) = nI 0 from rfl, ni_le (by omega) (by omega)]; omega) (ok_bv ?_)
    rw [ni_succ]
    cases hl : unt m (K - u - 1) (u + 1) with
    | nil =>
      rw [hl] at h
      simp at h
    | cons v l =>
      refine lay108_ok (u := v) (l := l) (fun q1 q2 q3 => ?_) hK (K - u - 1) (u + 1) fu (by omega) (by unfold fu; omega) hl
      rw [ni_pred']
      refine lay100_ok hK hi hk d v n (by omega) q3 ?_
      rw [q1, ← hl]
      exact h
theorem lay84_ok (hK : K ≤ 6) (hi : i < 6) {w d : Nat} (hd : d < 6) (hk : w < K → Ok (K35 (m ||| (1 <<< (nI w &&& 31))) x3 x4 (nI (i + 1)) (sI ρ 1041 i (ρ.1 1040 w))) Q) : ∀ (r j n : Nat), j + r = K → r < n → (unt m r j)[d]? = some w → Ok (X12_layOrder_84 K35 n m x3 x4 (nI i) (nI d) (nI j) ρ) Q
  | 0, _, _, _, _, h => by simp [unt] at h
  | r + 1, j, n, h1, h2, h => by
    obtain ⟨n, rfl⟩ : ∃ q, n = q + 1 := ⟨n - 1, by omega⟩
    rw [unt_s] at h
    rw [X12_layOrder_84]
    refine ok_ite (fun z => ?_) (fun z => ?_)
    · rw [tb_shr1 m (by omega)] at z
      rw [if_pos z] at h
      refine ok_bv ?_
      rw [ni_succ]
      exact lay84_ok hK hi hd hk r (j + 1) n (by omega) (by omega) h
    · rw [tb_shr1 m (by omega)] at z
      rw [if_neg z] at h
      refine lay100_ok hK hi hk d j fu (by unfold fu; omega) (by omega) ?_
      rw [show K - j - 1 = r by omega]
      exact h
end Lay
theorem fct_div {k : Nat} : fct (k + 1) / (k + 1) = fct k := Nat.mul_div_cancel_left _ (Nat.succ_pos k)
theorem fct_le : ∀ k : Fin 7, fct k.val ≤ 720 := by decide
theorem lay35_ok {cs : List Nat} {K : Nat} {ρ0 : Mem} (hK : K ≤ 5) (hcs : cs.length = K) (h40 : ∀ j, j < K → ρ0.1 1040 j = nI (cs.getD j 0)) (h74 : ρ0.1 1000 74 = nI K) : ∀ (k n i N : Nat) (m : Int32) (x4 : Nat) (dn : List Nat) (ρ : Mem), k < n → i + k = K → N < fct k → (0 < k → x4 = fct (k - 1)) → dn.length = i → (unt m K 0).length = k → Fr [1041] [] ρ0 ρ → (∀ j, j < i → ρ.1 1041 j = nI (dn.getD j 0)) →
    Ok (X12_layOrder_35 n m (nI N) (nI x4) (nI i) ρ) (fun ρ' => Fr [1041] [] ρ0 ρ' ∧ ∀ j, j < K → ρ'.1 1041 j = nI ((dn ++ decO k ((unt m K 0).map (fun u => cs.getD u 0)) N).getD j 0)) := by
  intro k
  induction k with
  | zero =>
    intro n i N m x4 dn ρ h1 h2 h3 h4 h5 h6 hf h41
    obtain ⟨n, rfl⟩ : ∃ q, n = q + 1 := ⟨n - 1, by omega⟩
    have hi : i = K := by omega
    subst hi
    rw [X12_layOrder_35, hf.ne (a := 1000) (by decide), h74]
    refine ok_pos (Int32.le_refl _) (ok_some ⟨hf, fun j hj => ?_⟩)
    show ρ.1 1041 j = nI ((dn ++ []).getD j 0)
    rw [List.append_nil]
    exact h41 j hj
  | succ k ih =>
    intro n i N m x4 dn ρ h1 h2 h3 h4 h5 h6 hf h41
    obtain ⟨n, rfl⟩ : ∃ q, n = q + 1 := ⟨n - 1, by omega⟩
    have hx4 : x4 = fct k := h4 (by omega)
    subst hx4
    have hfk : fct k ≤ 720 := fct_le ⟨k, by omega⟩
    have hfk1 : fct (k + 1) ≤ 720 := fct_le ⟨k + 1, by omega⟩
    have hfp := fct_pos k
    have hN' : N < (k + 1) * fct k := h3
    have hd : N / fct k < k + 1 := Nat.div_lt_of_lt_mul (by rw [Nat.mul_comm]; exact hN')
    have hmod : N % fct k < fct k := Nat.mod_lt _ hfp
    have nz : ¬ nI (fct k) = 0 := fun e => by
      rw [ni_z (by omega)] at e
      omega
    rw [X12_layOrder_35, hf.ne (a := 1000) (by decide), h74]
    refine ok_neg (by rw [ni_le (by omega) (by omega)]; omega) (ok_neg nz (ok_bv (ok_neg nz (ok_bv ?_))))
    have hdm := Nat.div_add_mod N (fct k)
    rw [ni_div (by omega) (by omega), ni_mul, ni_sub (by rw [Nat.mul_comm]; exact Nat.mul_div_le N (fct k)), show N - N / fct k * fct k = N % fct k by rw [Nat.mul_comm]; omega]
    rw [show (1 : Int32) = nI 1 from rfl, ni_sub (by omega), ni_sub (by omega), show K - 1 - i = k by omega]
    obtain ⟨w, hw⟩ : ∃ w, (unt m K 0)[N / fct k]? = some w := ⟨_, List.getElem?_eq_getElem (by omega)⟩
    have hwm := unt_mem m K 0 w (List.mem_of_getElem? hw)
    have hwK : w < K := by omega
    have hbit : ∀ q, q < 0 + K → tb (m ||| (1 <<< (nI w &&& 31))) q = (tb m q || decide (q = w)) := fun q hq => by
      rw [tb_or, tb_one (by omega) (by omega)]
    have hcut := unt_cut K 0 (N / fct k) hbit hw
    have hlen : (unt (m ||| (1 <<< (nI w &&& 31))) K 0).length = k := by
      rw [hcut, List.length_append, List.length_take, List.length_drop]
      omega
    have hdec : decO (k + 1) ((unt m K 0).map (fun u => cs.getD u 0)) N = cs.getD w 0 :: decO k ((unt (m ||| (1 <<< (nI w &&& 31))) K 0).map (fun u => cs.getD u 0)) (N % fct k) := by
      show ((unt m K 0).map (fun u => cs.getD u 0)).getD (N / fct k) 0 :: _ = _
      rw [hcut, List.map_append, List.map_take, List.map_drop]
      congr 1
      simp [List.getD, hw]
    have e40 : ρ.1 1040 w = nI (cs.getD w 0) := by
      rw [hf.ne (a := 1040) (by decide)]
      exact h40 w hwK
    have go : ∀ x4', (0 < k → x4' = fct (k - 1)) → Ok (X12_layOrder_81 (X12_layOrder_35 n) m (nI (N % fct k)) (nI x4') (nI i) (nI (N / fct k)) ρ) (fun ρ' => Fr [1041] [] ρ0 ρ' ∧ ∀ j, j < K → ρ'.1 1041 j = nI ((dn ++ decO (k + 1) ((unt m K 0).map (fun u => cs.getD u 0)) N).getD j 0)) := by
      intro x4' hx
      unfold X12_layOrder_81
      refine ok_bv ?_
      refine lay84_ok (K := K) (by omega) (by omega) (w := w) (by omega) (fun _ => ?_) K 0 fu (by omega) (by unfold fu; omega) hw
      have := ih n (i + 1) (N % fct k) (m ||| (1 <<< (nI w &&& 31))) x4' (dn ++ [cs.getD w 0]) (sI ρ 1041 i (ρ.1 1040 w)) (by omega) (by omega) hmod hx (by rw [List.length_append, h5]; rfl) hlen (frI hf (.head _)) (fun j hj => by
        rw [sI_o, e40]
        by_cases z : j = i
        · rw [if_pos z, z, ← h5]
          simp
        · rw [if_neg z, h41 j (by omega)]
          simp only [List.getD]
          rw [List.getElem?_append_left (by omega)])
      rw [List.append_assoc] at this
      rw [hdec]
      exact this
    refine ok_ite (fun z => ?_) (fun z => ?_)
    · rw [show (0 : Int32) = nI 0 from rfl, ni_le (by omega) (by omega)] at z
      exact go (fct k) (fun h => by omega)
    · rw [show (0 : Int32) = nI 0 from rfl, ni_le (by omega) (by omega)] at z
      obtain ⟨k, rfl⟩ : ∃ q, k = q + 1 := ⟨k - 1, by omega⟩
      refine ok_neg (by rw [ni_z (by omega)]; omega) (ok_bv ?_)
      rw [ni_div (by omega) (by omega), fct_div]
      exact go (fct k) (fun _ => rfl)
theorem unt_zero : ∀ (r j : Nat), unt 0 r j = List.range' j r
  | 0, _ => rfl
  | r + 1, j => by
    rw [unt_s, tb_zero, if_neg (by decide), unt_zero r (j + 1)]
    rfl
theorem unt_map {cs : List Nat} {K : Nat} (h : cs.length = K) : (unt 0 K 0).map (fun u => cs.getD u 0) = cs := by
  rw [unt_zero]
  apply List.ext_getElem?
  intro i
  rw [List.getElem?_map]
  by_cases z : i < K
  · rw [List.getElem?_range' (by omega), List.getElem?_eq_getElem (by omega)]
    simp [List.getD, show i < cs.length by omega]
  · rw [List.getElem?_eq_none (by rw [List.length_range']; omega), List.getElem?_eq_none (by omega)]
    rfl
theorem layOrder_ok {cs : List Nat} {K N : Nat} {ρ : Mem} (hK : K ≤ 5) (h1 : 1 ≤ K) (hcs : cs.length = K) (h40 : ∀ j, j < K → ρ.1 1040 j = nI (cs.getD j 0)) (h74 : ρ.1 1000 74 = nI K) (hN : N < fct K) :
    Ok (X12_layOrder (nI N) ρ) (fun ρ' => Fr [1041] [] ρ ρ' ∧ ∀ j, j < K → ρ'.1 1041 j = nI ((decO K cs N).getD j 0)) := by
  unfold X12_layOrder
  refine ok_bv (ok_bv (ok_bv ?_))
  have key : ∀ (r j n : Nat), r = K - j → 2 ≤ j → (j ≤ K ∨ j = 2) → r < n → Ok (X12_layOrder_10 n 0 (nI N) (nI (fct (j - 1))) (nI j) ρ) (fun ρ' => Fr [1041] [] ρ ρ' ∧ ∀ j, j < K → ρ'.1 1041 j = nI ((decO K cs N).getD j 0)) := by
    intro r
    induction r with
    | zero =>
      intro j n q1 q2 q3 q4
      obtain ⟨n, rfl⟩ : ∃ q, n = q + 1 := ⟨n - 1, by omega⟩
      rw [X12_layOrder_10, h74]
      refine ok_pos (by rw [ni_le (by omega) (by omega)]; omega) (ok_bv ?_)
      have e4 : fct (j - 1) = fct (K - 1) := by
        by_cases z : j = K
        · rw [z]
        · rw [show j = 2 by omega, show K = 1 by omega]
          rfl
      have := lay35_ok hK hcs h40 h74 K fu 0 N 0 (fct (j - 1)) [] ρ (by unfold fu; omega) (by omega) hN (fun _ => e4) rfl (by rw [unt_zero, List.length_range']) Fr.refl (fun j hj => by omega)
      rw [unt_map hcs, List.nil_append] at this
      exact this
    | succ r ih =>
      intro j n q1 q2 q3 q4
      obtain ⟨n, rfl⟩ : ∃ q, n = q + 1 := ⟨n - 1, by omega⟩
      rw [X12_layOrder_10, h74]
      refine ok_neg (by rw [ni_le (by omega) (by omega)]; omega) (ok_bv (ok_bv ?_))
      have e : fct (j - 1) * j = fct (j + 1 - 1) := by
        obtain ⟨p, rfl⟩ : ∃ p, j = p + 1 := ⟨j - 1, by omega⟩
        show fct p * (p + 1) = (p + 1) * fct p
        rw [Nat.mul_comm]
      rw [ni_mul, ni_succ, e]
      exact ih (j + 1) n (by omega) (by omega) (by omega) (by omega)
  exact key (K - 2) 2 fu rfl (by omega) (by omega) (by unfold fu; omega)
