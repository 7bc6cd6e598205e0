/-! PURE BASE: small ints, memory, what ends well -/
theorem bv_eq {α β : Type} (a : α) (f : α → β) : bv a f = f a := rfl
theorem toInt_nI {n : Nat} (h : n < 2147483648) : (nI n).toInt = n := Int32.toInt_ofNat_of_lt h
theorem ni_cl {n : Nat} (h : n < 2147483648) : (nI n).toNatClampNeg = n := Int32.toNatClampNeg_ofNat_of_lt h
theorem ni_le {a b : Nat} (ha : a < 2147483648) (hb : b < 2147483648) : nI a ≤ nI b ↔ a ≤ b := by
  rw [Int32.le_iff_toInt_le, toInt_nI ha, toInt_nI hb]
  omega
theorem ni_lt {a b : Nat} (ha : a < 2147483648) (hb : b < 2147483648) : nI a < nI b ↔ a < b := by
  rw [Int32.lt_iff_toInt_lt, toInt_nI ha, toInt_nI hb]
  omega
theorem ni_inj {a b : Nat} (ha : a < 2147483648) (hb : b < 2147483648) : nI a = nI b ↔ a = b := by
  rw [← Int32.toInt_inj, toInt_nI ha, toInt_nI hb]
  omega
theorem ni_add (a b : Nat) : nI a + nI b = nI (a + b) := (Int32.ofNat_add a b).symm
theorem ni_succ (a : Nat) : nI a + 1 = nI (a + 1) := ni_add a 1
theorem ni_mul (a b : Nat) : nI a * nI b = nI (a * b) := (Int32.ofNat_mul a b).symm
theorem ni_sub {a b : Nat} (h : b ≤ a) : nI a - nI b = nI (a - b) := by
  have := ni_add (a - b) b
  rw [Nat.sub_add_cancel h] at this
  rw [← this, Int32.add_sub_cancel]
theorem ni_pred (a : Nat) : nI (a + 1) - 1 = nI a := by
  rw [← ni_succ, Int32.add_sub_cancel]
theorem ni_pred' (a : Nat) : nI (a + 1) + (-1) = nI a := by
  rw [← ni_succ, Int32.add_assoc, show (1 : Int32) + (-1) = 0 by decide, Int32.add_zero]
theorem ni_nn {a : Nat} (h : a < 2147483648) : (0 : Int32) ≤ nI a := (ni_le (a := 0) (by omega) h).mpr (Nat.zero_le a)
theorem ib_nI {n k : Nat} (h : n < 2147483648) : ib (nI n) k = decide (n < k) := by
  unfold ib
  rw [ni_cl h, decide_eq_true (ni_nn h), Bool.true_and]
theorem ib_t {n k : Nat} (h : n < k) (hk : k ≤ 2147483648) : ib (nI n) k = true := by
  rw [ib_nI (by omega)]
  exact decide_eq_true h
theorem ni_of {x : Int32} (h : 0 ≤ x) : ∃ n, n < 2147483648 ∧ x = nI n := by
  refine ⟨x.toNatClampNeg, Int32.toNatClampNeg_lt x, ?_⟩
  exact (Int32.ofNat_toNatClampNeg x h).symm
theorem ni_of_lt {x : Int32} {n : Nat} (h : ¬ x < 0) (hn : ¬ nI n ≤ x) (hb : n < 2147483648) : ∃ k, k < n ∧ x = nI k := by
  obtain ⟨k, hk, rfl⟩ := ni_of (Int32.not_lt.mp h)
  refine ⟨k, ?_, rfl⟩
  rw [ni_le hb hk] at hn
  omega
theorem neg1_lt : (-1 : Int32) < 0 := by decide
theorem ni_ne_neg {a : Nat} (h : a < 2147483648) : nI a ≠ -1 := fun e => by
  have := ni_nn h
  rw [e] at this
  exact absurd this (by decide)
theorem sI_r (σ : Mem) (o k : Nat) (v : Int32) (a b : Nat) : (sI σ o k v).1 a b = if a = o ∧ b = k then v else σ.1 a b := rfl
theorem sI_l (σ : Mem) (o k : Nat) (v : Int32) : (sI σ o k v).2 = σ.2 := rfl
theorem sI_n {σ : Mem} {o k : Nat} {v : Int32} {a : Nat} (h : a ≠ o) (b : Nat) : (sI σ o k v).1 a b = σ.1 a b := by
  rw [sI_r, if_neg (fun e => h e.1)]
theorem sI_k {σ : Mem} {o k : Nat} {v : Int32} {b : Nat} (h : b ≠ k) (a : Nat) : (sI σ o k v).1 a b = σ.1 a b := by
  rw [sI_r, if_neg (fun e => h e.2)]
theorem sI_e (σ : Mem) (o k : Nat) (v : Int32) : (sI σ o k v).1 o k = v := by
  rw [sI_r, if_pos ⟨rfl, rfl⟩]
theorem sI_o (σ : Mem) (o k : Nat) (v : Int32) (b : Nat) : (sI σ o k v).1 o b = if b = k then v else σ.1 o b := by
  rw [sI_r]
  simp
theorem sL_r (σ : Mem) (o k : Nat) (v : Int64) (a b : Nat) : (sL σ o k v).2 a b = if a = o ∧ b = k then v else σ.2 a b := rfl
theorem sL_i (σ : Mem) (o k : Nat) (v : Int64) : (sL σ o k v).1 = σ.1 := rfl
theorem sC_r (σ : Mem) (o dp : Nat) (f : Nat → Int32) (sp n : Nat) (a b : Nat) : (sC σ o dp f sp n).1 a b = if a = o then (if dp ≤ b ∧ b < dp + n then f (sp + (b - dp)) else σ.1 o b) else σ.1 a b := rfl
theorem sC_l (σ : Mem) (o dp : Nat) (f : Nat → Int32) (sp n : Nat) : (sC σ o dp f sp n).2 = σ.2 := rfl
theorem sC_n {σ : Mem} {o dp : Nat} {f : Nat → Int32} {sp n : Nat} {a : Nat} (h : a ≠ o) (b : Nat) : (sC σ o dp f sp n).1 a b = σ.1 a b := by
  rw [sC_r, if_neg h]
theorem sC_o (σ : Mem) (o dp : Nat) (f : Nat → Int32) (sp n : Nat) (b : Nat) : (sC σ o dp f sp n).1 o b = if dp ≤ b ∧ b < dp + n then f (sp + (b - dp)) else σ.1 o b := by
  rw [sC_r, if_pos rfl]
/-! what ends well -/
def Ok {α : Type} (r : Option α) (Q : α → Prop) : Prop := ∃ a, r = some a ∧ Q a
section OkRows
variable {α β : Type} {Q : α → Prop} {P : β → Prop}
theorem ok_some {a : α} (h : Q a) : Ok (some a) Q := ⟨a, rfl, h⟩
theorem ok_bind {r : Option β} {f : β → Option α} (h : Ok r P) (hf : ∀ b, P b → Ok (f b) Q) : Ok (r.bind f) Q := by
  obtain ⟨b, rfl, hb⟩ := h
  exact hf b hb
theorem ok_bindE {r : Option β} {f : β → Option α} {b : β} (h : r = some b) (hf : Ok (f b) Q) : Ok (r.bind f) Q := by
  subst h
  exact hf
theorem ok_bv {a : β} {f : β → Option α} (h : Ok (f a) Q) : Ok (bv a f) Q := h
theorem ok_mono {r : Option α} {Q' : α → Prop} (h : Ok r Q') (hq : ∀ a, Q' a → Q a) : Ok r Q := by
  obtain ⟨a, e, ha⟩ := h
  exact ⟨a, e, hq a ha⟩
theorem ok_pos {c : Prop} [Decidable c] {r1 r2 : Option α} (h : c) (h1 : Ok r1 Q) : Ok (if c then r1 else r2) Q := by
  rw [if_pos h]
  exact h1
theorem ok_neg {c : Prop} [Decidable c] {r1 r2 : Option α} (h : ¬ c) (h1 : Ok r2 Q) : Ok (if c then r1 else r2) Q := by
  rw [if_neg h]
  exact h1
theorem ok_ite {c : Prop} [Decidable c] {r1 r2 : Option α} (h1 : c → Ok r1 Q) (h2 : ¬ c → Ok r2 Q) : Ok (if c then r1 else r2) Q := by
  split
  · exact h1 ‹_›
  · exact h2 ‹_›
/-- a result that ends well, and its frame -/
theorem ok_fr {r : Option α} {L : List Nat} {K : List (Nat × Nat)} {m : α → Mem} {σ : Mem} (h : Ok r Q) (hf : FR L K m σ r) : Ok r (fun a => Q a ∧ Fr L K σ (m a)) := by
  obtain ⟨a, e, ha⟩ := h
  exact ⟨a, e, ha, hf a e⟩
/-- a counting loop: from i up to N, with a state; each turn goes on with i + 1, or ends -/
theorem ok_loop {S : Type} {F : Nat → Int32 → S → Option α} {N : Nat} {I : Nat → S → Prop}
    (hs : ∀ n i s, i < N → I i s → (∀ s', I (i + 1) s' → Ok (F n (nI (i + 1)) s') Q) → Ok (F (n + 1) (nI i) s) Q)
    (he : ∀ n s, I N s → Ok (F (n + 1) (nI N) s) Q) : ∀ (k n i : Nat) (s : S), i + k = N → k < n → I i s → Ok (F n (nI i) s) Q := by
  intro k
  induction k with
  | zero =>
    intro n i s hi hn h
    obtain ⟨n, rfl⟩ : ∃ m, n = m + 1 := ⟨n - 1, by omega⟩
    have : i = N := by omega
    subst this
    exact he n s h
  | succ k ih =>
    intro n i s hi hn h
    obtain ⟨n, rfl⟩ : ∃ m, n = m + 1 := ⟨n - 1, by omega⟩
    exact hs n i s (by omega) h (fun s' h' => ih n (i + 1) s' (by omega) (by omega) h')
theorem ok_loop0 {S : Type} {F : Nat → Int32 → S → Option α} {N : Nat} {I : Nat → S → Prop} (i : Nat) (s : S) (hi : i ≤ N) (hN : N < 5000) (h : I i s)
    (hs : ∀ n i s, i < N → I i s → (∀ s', I (i + 1) s' → Ok (F n (nI (i + 1)) s') Q) → Ok (F (n + 1) (nI i) s) Q)
    (he : ∀ n s, I N s → Ok (F (n + 1) (nI N) s) Q) : Ok (F fu (nI i) s) Q :=
  ok_loop hs he (N - i) fu i s (by omega) (by unfold fu; omega) h
end OkRows
