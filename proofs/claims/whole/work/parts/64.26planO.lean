/-! plan: the orders one by one -/
def fct : Nat → Nat
  | 0 => 1
  | n + 1 => (n + 1) * fct n
theorem fct_pos : ∀ n, 0 < fct n
  | 0 => Nat.one_pos
  | n + 1 => Nat.mul_pos (Nat.succ_pos n) (fct_pos n)
def decO : Nat → List Nat → Nat → List Nat
  | 0, _, _ => []
  | k + 1, cs, N => cs.getD (N / fct k) 0 :: decO k (cs.take (N / fct k) ++ cs.drop (N / fct k + 1)) (N % fct k)
theorem kids_len {P : List Nat → List (List Nat)} {k M : Nat} (hP : ∀ l : List Nat, l.length = k → (P l).length = M) : ∀ (r pre : List Nat), pre.length + r.length = k + 1 → (kidsP P pre r).length = r.length * M
  | [], _, _ => by simp [kidsP]
  | c :: r, pre, h => by
    rw [List.length_cons] at h
    unfold kidsP
    rw [List.length_append, List.length_map, hP _ (by rw [List.length_append]; omega), kids_len hP r (pre ++ [c]) (by rw [List.length_append, List.length_cons, List.length_nil]; omega), List.length_cons, Nat.succ_mul]
    omega
theorem kids_get {P : List Nat → List (List Nat)} {k M : Nat} (hM : 0 < M) (hP : ∀ l : List Nat, l.length = k → (P l).length = M) : ∀ (r pre : List Nat) (N : Nat), pre.length + r.length = k + 1 → N < r.length * M →
    (kidsP P pre r)[N]? = ((P (pre ++ r.take (N / M) ++ r.drop (N / M + 1)))[N % M]?).map (fun o => r.getD (N / M) 0 :: o)
  | [], _, N, _, hN => by simp at hN
  | c :: r, pre, N, h, hN => by
    rw [List.length_cons] at h hN
    rw [Nat.succ_mul] at hN
    unfold kidsP
    have hl : ((P (pre ++ r)).map (fun o => c :: o)).length = M := by rw [List.length_map, hP _ (by rw [List.length_append]; omega)]
    by_cases z : N < M
    · rw [List.getElem?_append_left (by omega), Nat.div_eq_of_lt z, Nat.mod_eq_of_lt z, List.getElem?_map, List.take_zero, List.append_nil]
      rfl
    · obtain ⟨N', rfl⟩ : ∃ q, N = M + q := ⟨N - M, by omega⟩
      rw [List.getElem?_append_right (by omega), hl, Nat.add_sub_cancel_left, kids_get hM hP r (pre ++ [c]) N' (by rw [List.length_append, List.length_cons, List.length_nil]; omega) (by omega), Nat.add_div_left _ hM, Nat.add_mod_left, List.append_assoc pre [c], List.getD_cons_succ]
      rfl
theorem perms_get : ∀ (k : Nat) (cs : List Nat), cs.length = k → (perms k cs).length = fct k ∧ ∀ N, N < fct k → (perms k cs)[N]? = some (decO k cs N)
  | 0, cs, _ => by
    refine ⟨rfl, fun N hN => ?_⟩
    have : N = 0 := by unfold fct at hN; omega
    subst this
    rfl
  | k + 1, cs, h => by
    have hP : ∀ l : List Nat, l.length = k → (perms k l).length = fct k := fun l hl => (perms_get k l hl).1
    refine ⟨?_, fun N hN => ?_⟩
    · show (kidsP (perms k) [] cs).length = _
      rw [kids_len hP cs [] (by simpa using h), h]
      rfl
    · show (kidsP (perms k) [] cs)[N]? = _
      have hN' : N < (k + 1) * fct k := hN
      rw [kids_get (fct_pos k) hP cs [] N (by simpa using h) (by rw [h]; exact hN'), List.nil_append]
      have hd : N / fct k < k + 1 := Nat.div_lt_of_lt_mul (by rw [Nat.mul_comm]; exact hN')
      rw [(perms_get k _ (by rw [List.length_append, List.length_take, List.length_drop]; omega)).2 _ (Nat.mod_lt _ (fct_pos k))]
      rfl
theorem decO_len : ∀ (k : Nat) (cs : List Nat) (N : Nat), (decO k cs N).length = k
  | 0, _, _ => rfl
  | k + 1, cs, N => by
    unfold decO
    rw [List.length_cons, decO_len k]
theorem decO_mem : ∀ (k : Nat) (cs : List Nat) (N : Nat), cs.length = k → N < fct k → ∀ c, c ∈ decO k cs N → c ∈ cs
  | 0, _, _, _, _, c, h => by cases h
  | k + 1, cs, N, hl, hN, c, h => by
    have hN' : N < (k + 1) * fct k := hN
    have hd : N / fct k < k + 1 := Nat.div_lt_of_lt_mul (by rw [Nat.mul_comm]; exact hN')
    unfold decO at h
    rcases List.mem_cons.mp h with g | g
    · rw [g]
      have : cs.getD (N / fct k) 0 = cs[N / fct k]'(by omega) := by simp [List.getD, show N / fct k < cs.length by omega]
      rw [this]
      exact List.getElem_mem _
    · have := decO_mem k _ _ (by rw [List.length_append, List.length_take, List.length_drop]; omega) (Nat.mod_lt _ (fct_pos k)) c g
      rcases List.mem_append.mp this with q | q
      · exact List.mem_of_mem_take q
      · exact List.mem_of_mem_drop q
/-! the places not yet taken -/
def unt (m : Int32) : Nat → Nat → List Nat
  | 0, _ => []
  | r + 1, j => if tb m j = true then unt m r (j + 1) else j :: unt m r (j + 1)
theorem unt_s (m : Int32) (r j : Nat) : unt m (r + 1) j = if tb m j = true then unt m r (j + 1) else j :: unt m r (j + 1) := rfl
theorem unt_mem (m : Int32) : ∀ (r j w : Nat), w ∈ unt m r j → j ≤ w ∧ w < j + r ∧ tb m w = false
  | 0, _, _, h => by cases h
  | r + 1, j, w, h => by
    rw [unt_s] at h
    split at h
    · have := unt_mem m r (j + 1) w h
      exact ⟨by omega, by omega, this.2.2⟩
    · rename_i z
      rcases List.mem_cons.mp h with g | g
      · subst g
        exact ⟨Nat.le_refl _, by omega, by simpa using z⟩
      · have := unt_mem m r (j + 1) w g
        exact ⟨by omega, by omega, this.2.2⟩
theorem unt_congr {m m' : Int32} : ∀ (r j : Nat), (∀ q, j ≤ q → q < j + r → tb m' q = tb m q) → unt m' r j = unt m r j
  | 0, _, _ => rfl
  | r + 1, j, h => by
    rw [unt_s, unt_s, h j (Nat.le_refl _) (by omega), unt_congr r (j + 1) (fun q h1 h2 => h q (by omega) (by omega))]
theorem unt_cut {m m' : Int32} {w : Nat} : ∀ (r j d : Nat), (∀ q, q < j + r → tb m' q = (tb m q || decide (q = w))) → (unt m r j)[d]? = some w → unt m' r j = (unt m r j).take d ++ (unt m r j).drop (d + 1)
  | 0, _, _, _, h => by simp [unt] at h
  | r + 1, j, d, hm, h => by
    rw [unt_s] at h
    rw [unt_s, unt_s, hm j (by omega)]
    by_cases z : tb m j = true
    · rw [if_pos z] at h ⊢
      rw [if_pos (by rw [z]; rfl)]
      exact unt_cut r (j + 1) d (fun q hq => hm q (by omega)) h
    · rw [if_neg z] at h ⊢
      have z' : tb m j = false := by simpa using z
      cases d with
      | zero =>
        have hj : j = w := by simpa using h
        subst hj
        rw [if_pos (by simp)]
        rw [List.take_zero, List.nil_append, List.drop_succ_cons, List.drop_zero]
        exact unt_congr r (j + 1) (fun q h1 h2 => by rw [hm q (by omega), decide_eq_false (by omega), Bool.or_false])
      | succ d =>
        have h : (unt m r (j + 1))[d]? = some w := by simpa using h
        have hw := unt_mem m r (j + 1) w (List.mem_of_getElem? h)
        rw [if_neg (by rw [z', decide_eq_false (by omega)]; decide), List.take_succ_cons, List.drop_succ_cons, unt_cut r (j + 1) d (fun q hq => hm q (by omega)) h]
        rfl
theorem ni_div {a b : Nat} (ha : a < 2147483648) (hb : b < 2147483648) : nI a / nI b = nI (a / b) := by
  apply Int32.toInt_inj.mp
  have hab : a / b ≤ a := Nat.div_le_self a b
  rw [Int32.toInt_div, toInt_nI ha, toInt_nI hb, toInt_nI (by omega), ← Int.ofNat_tdiv]
  generalize a / b = q at *
  rw [Int.bmod_eq_of_le (by omega) (by omega)]
