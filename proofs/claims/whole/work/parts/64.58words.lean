/-! town: words packed into a long -/
theorem pkR_fin : ∀ c : Fin 256, ((nI c.val).toInt64).toBitVec = BitVec.ofNat 64 c.val := by decide +kernel
theorem pk_nat {a : Int64} {c : Nat} (ha : a.toBitVec.toNat < 72057594037927936) (hc : c < 256) : (pk a c).toBitVec.toNat = 256 * a.toBitVec.toNat + c := by
  have e : (pk a c).toBitVec = (a.toBitVec <<< 8) ||| BitVec.ofNat 64 c := by
    rw [← pkR_fin ⟨c, hc⟩]
    rfl
  rw [e, BitVec.toNat_or, BitVec.toNat_shiftLeft, BitVec.toNat_ofNat, Nat.mod_eq_of_lt (show c < 2 ^ 64 by omega), Nat.shiftLeft_eq, Nat.mod_eq_of_lt (by omega)]
  have := Nat.shiftLeft_add_eq_or_of_lt (i := 8) (b := c) (by omega) a.toBitVec.toNat
  rw [Nat.shiftLeft_eq] at this
  rw [← this]
  omega
def pv (l : List Nat) (A : Nat) : Nat := l.foldl (fun a c => 256 * a + c) A
theorem pack_nat : ∀ (l : List Nat) (a : Int64) (j : Nat), j + l.length ≤ 8 → a.toBitVec.toNat < 256 ^ j → (∀ c, c ∈ l → c < 256) → (l.foldl pk a).toBitVec.toNat = pv l a.toBitVec.toNat
  | [], _, _, _, _, _ => rfl
  | c :: r, a, j, h1, h2, h3 => by
    rw [List.length_cons] at h1
    have h7 : (256 : Nat) ^ j ≤ 256 ^ 7 := Nat.pow_le_pow_right (by omega) (by omega)
    have hc := h3 c (.head _)
    have e := pk_nat (a := a) (c := c) (by omega) hc
    have := pack_nat r (pk a c) (j + 1) (by omega) (by rw [e, Nat.pow_succ]; omega) (fun d hd => h3 d (.tail _ hd))
    rw [List.foldl_cons, this, e]
    rfl
def vr : List Nat → Nat
  | [] => 0
  | c :: r => 256 * vr r + c
theorem vr_inj : ∀ (l m : List Nat), (∀ c, c ∈ l → 0 < c ∧ c < 256) → (∀ c, c ∈ m → 0 < c ∧ c < 256) → vr l = vr m → l = m
  | [], [], _, _, _ => rfl
  | [], d :: m, _, h2, e => by
    have := h2 d (.head _)
    simp only [vr] at e
    omega
  | c :: l, [], h1, _, e => by
    have := h1 c (.head _)
    simp only [vr] at e
    omega
  | c :: l, d :: m, h1, h2, e => by
    have g1 := h1 c (.head _)
    have g2 := h2 d (.head _)
    simp only [vr] at e
    rw [vr_inj l m (fun x hx => h1 x (.tail _ hx)) (fun x hx => h2 x (.tail _ hx)) (by omega), show c = d by omega]
theorem pv_vr : ∀ (l : List Nat) (q : List Nat), pv l (vr q) = vr (l.reverse ++ q)
  | [], q => rfl
  | c :: r, q => by
    have := pv_vr r (c :: q)
    rw [List.reverse_cons, List.append_assoc]
    exact this
def ltrs (l : List Nat) : Prop := l.length ≤ 8 ∧ ∀ c, c ∈ l → 0 < c ∧ c < 256
theorem pack_inj {l m : List Nat} (hl : ltrs l) (hm : ltrs m) : pack l = pack m ↔ l = m := by
  constructor
  · intro e
    have e1 := pack_nat l 0 0 (by have := hl.1; omega) (by decide) (fun c hc => (hl.2 c hc).2)
    have e2 := pack_nat m 0 0 (by have := hm.1; omega) (by decide) (fun c hc => (hm.2 c hc).2)
    have e3 : pv l 0 = pv m 0 := by
      have : (l.foldl pk 0).toBitVec.toNat = (m.foldl pk 0).toBitVec.toNat := congrArg (fun z : Int64 => z.toBitVec.toNat) e
      rw [e1, e2] at this
      exact this
    have e4 := pv_vr l []
    have e5 := pv_vr m []
    rw [List.append_nil] at e4 e5
    have e6 : vr l.reverse = vr m.reverse := by
      rw [← e4, ← e5]
      exact e3
    have := vr_inj l.reverse m.reverse (fun c hc => hl.2 c (List.mem_reverse.mp hc)) (fun c hc => hm.2 c (List.mem_reverse.mp hc)) e6
    exact List.reverse_inj.mp this
  · intro e
    rw [e]
theorem lets_mem (b : Nat → Nat) : ∀ n p c, c ∈ lets b n p → ∃ m, m < n ∧ c = b (p + m)
  | 0, _, _, h => by cases h
  | n + 1, p, c, h => by
    unfold lets at h
    rcases List.mem_cons.mp h with rfl | h
    · exact ⟨0, by omega, rfl⟩
    · obtain ⟨m, h1, h2⟩ := lets_mem b n (p + 1) c h
      exact ⟨m + 1, by omega, by rw [h2]; congr 1; omega⟩
theorem isL_b {v : Nat} (h : isL v = true) : 97 ≤ v ∧ v ≤ 122 := by
  unfold isL at h
  rw [Bool.and_eq_true, decide_eq_true_eq, decide_eq_true_eq] at h
  exact h
/-- the word that stands here -/
def wd (b : Nat → Nat) (x : Tk) : List Nat := lets b (x.2.2 - x.2.1) x.2.1
theorem wd_ltrs {b : Nat → Nat} {k : Nat} {x : Tk} (h : TW b k x) (h3 : x.1 = 3) : ltrs (wd b x) := by
  obtain ⟨h1, h2⟩ := h.2.2.2.1 h3
  refine ⟨by unfold wd; rw [lets_len]; exact h1, fun c hc => ?_⟩
  obtain ⟨m, g1, g2⟩ := lets_mem b _ _ c hc
  have := isL_b (h2 m g1)
  omega
theorem OW_ltrs : ∀ i : Fin 23, (OW.getD i.val []).length ≤ 8 ∧ ∀ c, c ∈ OW.getD i.val [] → 0 < c ∧ c < 256 := by decide
theorem OW_own : ∀ i : Fin 23, ownK (OW.getD i.val []) = nI (100 + i.val) := by decide +kernel
theorem own_cases (W : List Nat) : ∀ (ws : List (List Nat)) (j : Nat), (own W ws j = 3 ∧ ∀ i, i < ws.length → ws.getD i [] ≠ W) ∨ ∃ i, i < ws.length ∧ own W ws j = nI (j + i) ∧ ws.getD i [] = W
  | [], _ => .inl ⟨rfl, fun i h => by cases h⟩
  | w :: r, j => by
    unfold own
    by_cases z : w = W
    · rw [if_pos z]
      exact .inr ⟨0, by simp, rfl, z⟩
    · rw [if_neg z]
      rcases own_cases W r (j + 1) with h | ⟨i, h1, h2, h3⟩
      · refine .inl ⟨h.1, fun i hi => ?_⟩
        cases i with
        | zero => exact z
        | succ i =>
          rw [List.getD_cons_succ]
          exact h.2 i (by simpa using hi)
      · exact .inr ⟨i + 1, by simpa using h1, by rw [h2]; congr 1; omega, by rw [List.getD_cons_succ]; exact h3⟩
theorem own_iff {W : List Nat} {i : Nat} (hi : i < 23) : ownK W = nI (100 + i) ↔ W = OW.getD i [] := by
  constructor
  · intro e
    rcases own_cases W OW 100 with h | ⟨j, h1, h2, h3⟩
    · have h := h.1.symm.trans e
      rw [show (3 : Int32) = nI 3 from rfl, ni_inj (by omega) (by omega)] at h
      omega
    · have h1 : j < 23 := h1
      have h := h2.symm.trans e
      rw [ni_inj (by omega) (by omega)] at h
      rw [← h3, show j = i by omega]
  · intro e
    rw [e]
    exact OW_own ⟨i, hi⟩
theorem own_3 {W : List Nat} : ownK W = 3 ↔ ∀ i, i < 23 → W ≠ OW.getD i [] := by
  constructor
  · intro e i hi g
    have := (own_iff hi).mpr g
    rw [e, show (3 : Int32) = nI 3 from rfl, ni_inj (by omega) (by omega)] at this
    omega
  · intro h
    rcases own_cases W OW 100 with e | ⟨j, h1, h2, h3⟩
    · exact e.1
    · exact absurd h3.symm (h j h1)
theorem kindC_own {b : Nat → Nat} {k : Nat} {x : Tk} (h : TW b k x) {i : Nat} (hi : i < 23) : kindC b x = nI (100 + i) ↔ x.1 = 3 ∧ wd b x = OW.getD i [] := by
  unfold kindC
  by_cases z : x.1 = 3
  · rw [if_pos z, own_iff hi]
    exact ⟨fun e => ⟨z, e⟩, fun e => e.2⟩
  · rw [if_neg z]
    refine ⟨fun e => ?_, fun e => absurd e.1 z⟩
    have hx : x.1 < 64 := by
      by_cases y : 3 < x.1
      · have := h.2.2.2.2.2 y
        unfold isSg at this
        simp at this
        omega
      · omega
    rw [ni_inj (by omega) (by omega)] at e
    omega
theorem kindC_name {b : Nat → Nat} {k : Nat} {x : Tk} (h : TW b k x) : kindC b x = 3 ↔ x.1 = 3 ∧ ∀ i, i < 23 → wd b x ≠ OW.getD i [] := by
  unfold kindC
  by_cases z : x.1 = 3
  · rw [if_pos z]
    exact ⟨fun e => ⟨z, own_3.mp e⟩, fun e => own_3.mpr e.2⟩
  · rw [if_neg z]
    refine ⟨fun e => ?_, fun e => absurd e.1 z⟩
    have hx : x.1 < 64 := by
      by_cases y : 3 < x.1
      · have := h.2.2.2.2.2 y
        unfold isSg at this
        simp at this
        omega
      · omega
    rw [show (3 : Int32) = nI 3 from rfl, ni_inj (by omega) (by omega)] at e
    exact absurd e z
theorem sort1 {b : Nat → Nat} {k : Nat} {x : Tk} {ρ : Mem} (hw : TW b k x) (h : RTok b k x ρ) : ρ.1 1000 6 = 1 ↔ x.1 = 3 := by
  have hx : x.1 < 64 := by
    by_cases y : 3 < x.1
    · have := hw.2.2.2.2.2 y
      unfold isSg at this
      simp at this
      omega
    · omega
  rw [h.2.2.1]
  unfold kindR
  by_cases z : x.1 = 1
  · rw [if_pos z]
    exact ⟨fun e => absurd e (by decide), fun e => by omega⟩
  · rw [if_neg z]
    by_cases y : x.1 = 3
    · rw [if_pos y]
      exact ⟨fun _ => y, fun _ => rfl⟩
    · rw [if_neg y]
      refine ⟨fun e => ?_, fun e => absurd e y⟩
      rw [show (1 : Int32) = nI 1 from rfl, ni_inj (by omega) (by omega)] at e
      exact absurd e z
theorem isWordM_ok {b : Nat → Nat} {k : Nat} {x : Tk} {ρ : Mem} {c : Int64} (i : Nat) (hw : TW b k x) (h : RTok b k x ρ) (hi : i < 23) (hc : c = pack (OW.getD i [])) : X12_isWord c ρ = some (tr (decide (kindC b x = nI (100 + i))), ρ) := by
  unfold X12_isWord
  by_cases z : x.1 = 3
  · rw [if_pos ((sort1 hw h).mpr z)]
    have e9 : ρ.2 1000 9 = pack (wd b x) := h.2.2.2.2.2 z
    by_cases y : wd b x = OW.getD i []
    · rw [if_pos ((lg_cmp_eq _ _).mpr (by rw [e9, hc, y])), decide_eq_true ((kindC_own hw hi).mpr ⟨z, y⟩)]
      rfl
    · rw [if_neg (fun e => y ((pack_inj (wd_ltrs hw z) (OW_ltrs ⟨i, hi⟩)).mp (by rw [← e9, ← hc]; exact (lg_cmp_eq _ _).mp e))), decide_eq_false (fun e => y ((kindC_own hw hi).mp e).2)]
      rfl
  · rw [if_neg (fun e => z ((sort1 hw h).mp e)), decide_eq_false (fun e => z ((kindC_own hw hi).mp e).1)]
    rfl
theorem wc0 : (6578553 : Int64) = pack (OW.getD 0 []) := by decide +kernel
theorem wc1 : (123581014175598 : Int64) = pack (OW.getD 1 []) := by decide +kernel
theorem wc2 : (24948 : Int64) = pack (OW.getD 2 []) := by decide +kernel
theorem wc3 : (1869636974 : Int64) = pack (OW.getD 3 []) := by decide +kernel
theorem wc4 : (29807 : Int64) = pack (OW.getD 4 []) := by decide +kernel
theorem wc5 : (109299962049139 : Int64) = pack (OW.getD 5 []) := by decide +kernel
theorem wc6 : (1919251316 : Int64) = pack (OW.getD 6 []) := by decide +kernel
theorem wc7 : (482955846501 : Int64) = pack (OW.getD 7 []) := by decide +kernel
theorem wc8 : (1668245870 : Int64) = pack (OW.getD 8 []) := by decide +kernel
theorem wc9 : (1684365940 : Int64) = pack (OW.getD 9 []) := by decide +kernel
theorem wc10 : (7102839 : Int64) = pack (OW.getD 10 []) := by decide +kernel
theorem wc11 : (7597137600480375668 : Int64) = pack (OW.getD 11 []) := by decide +kernel
theorem wc12 : (1918986606 : Int64) = pack (OW.getD 12 []) := by decide +kernel
theorem wc13 : (28530 : Int64) = pack (OW.getD 13 []) := by decide +kernel
theorem wc14 : (6385252 : Int64) = pack (OW.getD 14 []) := by decide +kernel
theorem wc15 : (7237492 : Int64) = pack (OW.getD 15 []) := by decide +kernel
theorem wc16 : (1870095716 : Int64) = pack (OW.getD 16 []) := by decide +kernel
theorem wc17 : (1684108389 : Int64) = pack (OW.getD 17 []) := by decide +kernel
theorem wc18 : (1752135026 : Int64) = pack (OW.getD 18 []) := by decide +kernel
theorem wc19 : (7824756 : Int64) = pack (OW.getD 19 []) := by decide +kernel
theorem wc20 : (1936023924 : Int64) = pack (OW.getD 20 []) := by decide +kernel
theorem wc21 : (7169396 : Int64) = pack (OW.getD 21 []) := by decide +kernel
theorem wc22 : (482956245113 : Int64) = pack (OW.getD 22 []) := by decide +kernel
theorem isOwnM_ok {ρ : Mem} {W : List Nat} (hW : ltrs W) (h9 : ρ.2 1000 9 = pack W) : X12_isOwn ρ = some (tr (decide (ownK W ≠ 3)), ρ) := by
  have key : ∀ (i : Nat) (c : Int64), i < 23 → c = pack (OW.getD i []) → (lg_cmp (ρ.2 1000 9) c = 0 ↔ W = OW.getD i []) := fun i c hi hc => by
    rw [lg_cmp_eq, h9, hc, pack_inj hW (OW_ltrs ⟨i, hi⟩)]
  have yes : ∀ i, i < 23 → W = OW.getD i [] → some ((1 : Int32), ρ) = some (tr (decide (ownK W ≠ 3)), ρ) := fun i hi e => by
    rw [decide_eq_true (show ownK W ≠ 3 from fun g => (own_3.mp g) i hi e)]
    rfl
  unfold X12_isOwn
  by_cases z0 : W = OW.getD 0 []
  · rw [if_pos ((key 0 _ (by omega) wc0).mpr z0)]
    exact yes 0 (by omega) z0
  rw [if_neg (fun e => z0 ((key 0 _ (by omega) wc0).mp e))]
  by_cases z1 : W = OW.getD 1 []
  · rw [if_pos ((key 1 _ (by omega) wc1).mpr z1)]
    exact yes 1 (by omega) z1
  rw [if_neg (fun e => z1 ((key 1 _ (by omega) wc1).mp e))]
  by_cases z2 : W = OW.getD 2 []
  · rw [if_pos ((key 2 _ (by omega) wc2).mpr z2)]
    exact yes 2 (by omega) z2
  rw [if_neg (fun e => z2 ((key 2 _ (by omega) wc2).mp e))]
  by_cases z3 : W = OW.getD 3 []
  · rw [if_pos ((key 3 _ (by omega) wc3).mpr z3)]
    exact yes 3 (by omega) z3
  rw [if_neg (fun e => z3 ((key 3 _ (by omega) wc3).mp e))]
  by_cases z4 : W = OW.getD 4 []
  · rw [if_pos ((key 4 _ (by omega) wc4).mpr z4)]
    exact yes 4 (by omega) z4
  rw [if_neg (fun e => z4 ((key 4 _ (by omega) wc4).mp e))]
  by_cases z5 : W = OW.getD 5 []
  · rw [if_pos ((key 5 _ (by omega) wc5).mpr z5)]
    exact yes 5 (by omega) z5
  rw [if_neg (fun e => z5 ((key 5 _ (by omega) wc5).mp e))]
  by_cases z6 : W = OW.getD 6 []
  · rw [if_pos ((key 6 _ (by omega) wc6).mpr z6)]
    exact yes 6 (by omega) z6
  rw [if_neg (fun e => z6 ((key 6 _ (by omega) wc6).mp e))]
  by_cases z7 : W = OW.getD 7 []
  · rw [if_pos ((key 7 _ (by omega) wc7).mpr z7)]
    exact yes 7 (by omega) z7
  rw [if_neg (fun e => z7 ((key 7 _ (by omega) wc7).mp e))]
  by_cases z8 : W = OW.getD 8 []
  · rw [if_pos ((key 8 _ (by omega) wc8).mpr z8)]
    exact yes 8 (by omega) z8
  rw [if_neg (fun e => z8 ((key 8 _ (by omega) wc8).mp e))]
  by_cases z9 : W = OW.getD 9 []
  · rw [if_pos ((key 9 _ (by omega) wc9).mpr z9)]
    exact yes 9 (by omega) z9
  rw [if_neg (fun e => z9 ((key 9 _ (by omega) wc9).mp e))]
  by_cases z10 : W = OW.getD 10 []
  · rw [if_pos ((key 10 _ (by omega) wc10).mpr z10)]
    exact yes 10 (by omega) z10
  rw [if_neg (fun e => z10 ((key 10 _ (by omega) wc10).mp e))]
  by_cases z11 : W = OW.getD 11 []
  · rw [if_pos ((key 11 _ (by omega) wc11).mpr z11)]
    exact yes 11 (by omega) z11
  rw [if_neg (fun e => z11 ((key 11 _ (by omega) wc11).mp e))]
  by_cases z12 : W = OW.getD 12 []
  · rw [if_pos ((key 12 _ (by omega) wc12).mpr z12)]
    exact yes 12 (by omega) z12
  rw [if_neg (fun e => z12 ((key 12 _ (by omega) wc12).mp e))]
  by_cases z16 : W = OW.getD 16 []
  · rw [if_pos ((key 16 _ (by omega) wc16).mpr z16)]
    exact yes 16 (by omega) z16
  rw [if_neg (fun e => z16 ((key 16 _ (by omega) wc16).mp e))]
  by_cases z17 : W = OW.getD 17 []
  · rw [if_pos ((key 17 _ (by omega) wc17).mpr z17)]
    exact yes 17 (by omega) z17
  rw [if_neg (fun e => z17 ((key 17 _ (by omega) wc17).mp e))]
  by_cases z18 : W = OW.getD 18 []
  · rw [if_pos ((key 18 _ (by omega) wc18).mpr z18)]
    exact yes 18 (by omega) z18
  rw [if_neg (fun e => z18 ((key 18 _ (by omega) wc18).mp e))]
  by_cases z19 : W = OW.getD 19 []
  · rw [if_pos ((key 19 _ (by omega) wc19).mpr z19)]
    exact yes 19 (by omega) z19
  rw [if_neg (fun e => z19 ((key 19 _ (by omega) wc19).mp e))]
  by_cases z20 : W = OW.getD 20 []
  · rw [if_pos ((key 20 _ (by omega) wc20).mpr z20)]
    exact yes 20 (by omega) z20
  rw [if_neg (fun e => z20 ((key 20 _ (by omega) wc20).mp e))]
  by_cases z21 : W = OW.getD 21 []
  · rw [if_pos ((key 21 _ (by omega) wc21).mpr z21)]
    exact yes 21 (by omega) z21
  rw [if_neg (fun e => z21 ((key 21 _ (by omega) wc21).mp e))]
  by_cases z22 : W = OW.getD 22 []
  · rw [if_pos ((key 22 _ (by omega) wc22).mpr z22)]
    exact yes 22 (by omega) z22
  rw [if_neg (fun e => z22 ((key 22 _ (by omega) wc22).mp e))]
  by_cases z14 : W = OW.getD 14 []
  · rw [if_pos ((key 14 _ (by omega) wc14).mpr z14)]
    exact yes 14 (by omega) z14
  rw [if_neg (fun e => z14 ((key 14 _ (by omega) wc14).mp e))]
  by_cases z13 : W = OW.getD 13 []
  · rw [if_pos ((key 13 _ (by omega) wc13).mpr z13)]
    exact yes 13 (by omega) z13
  rw [if_neg (fun e => z13 ((key 13 _ (by omega) wc13).mp e))]
  by_cases z15 : W = OW.getD 15 []
  · rw [if_pos ((key 15 _ (by omega) wc15).mpr z15)]
    exact yes 15 (by omega) z15
  rw [if_neg (fun e => z15 ((key 15 _ (by omega) wc15).mp e))]
  have : ownK W = 3 := own_3.mpr (fun i hi => by
    match i, hi with
    | 0, _ => exact z0
    | 1, _ => exact z1
    | 2, _ => exact z2
    | 3, _ => exact z3
    | 4, _ => exact z4
    | 5, _ => exact z5
    | 6, _ => exact z6
    | 7, _ => exact z7
    | 8, _ => exact z8
    | 9, _ => exact z9
    | 10, _ => exact z10
    | 11, _ => exact z11
    | 12, _ => exact z12
    | 13, _ => exact z13
    | 14, _ => exact z14
    | 15, _ => exact z15
    | 16, _ => exact z16
    | 17, _ => exact z17
    | 18, _ => exact z18
    | 19, _ => exact z19
    | 20, _ => exact z20
    | 21, _ => exact z21
    | 22, _ => exact z22
    | n + 23, hi => exact absurd hi (by omega))
  rw [decide_eq_false (fun e => e this)]
  rfl
theorem isNameM_ok {b : Nat → Nat} {k : Nat} {x : Tk} {ρ : Mem} (hw : TW b k x) (h : RTok b k x ρ) : X12_isName ρ = some (tr (decide (kindC b x = 3)), ρ) := by
  unfold X12_isName
  by_cases z : x.1 = 3
  · rw [if_pos ((sort1 hw h).mpr z), isOwnM_ok (wd_ltrs hw z) (h.2.2.2.2.2 z), Option.bind_some]
    have e : kindC b x = ownK (wd b x) := by
      unfold kindC
      rw [if_pos z]
      rfl
    rw [e]
    by_cases y : ownK (wd b x) = 3
    · rw [decide_eq_true y, decide_eq_false (fun g => g y)]
      rfl
    · rw [decide_eq_false y, decide_eq_true y]
      rfl
  · rw [if_neg (fun e => z ((sort1 hw h).mp e)), decide_eq_false (fun e => z ((kindC_name hw).mp e).1)]
    rfl
