/-! town: both sides step by step -/
def Ok2 {α β : Type} (r : Option α) (s : Option β) (Q : α → β → Prop) : Prop := ∃ a b, r = some a ∧ s = some b ∧ Q a b
section Ok2s
variable {α β γ δ : Type} {Q : α → β → Prop} {P : γ → δ → Prop} {r : Option α} {s : Option β}
theorem o2_some {a : α} {b : β} (h : Q a b) : Ok2 (some a) (some b) Q := ⟨a, b, rfl, rfl, h⟩
theorem o2_bind {r : Option γ} {s : Option δ} {f : γ → Option α} {g : δ → Option β} (h : Ok2 r s P) (hf : ∀ a b, P a b → Ok2 (f a) (g b) Q) : Ok2 (r.bind f) (s.bind g) Q := by
  obtain ⟨a, b, rfl, rfl, hp⟩ := h
  exact hf a b hp
theorem o2_l {r : Option γ} {a : γ} {f : γ → Option α} (h : r = some a) (hf : Ok2 (f a) s Q) : Ok2 (r.bind f) s Q := by
  subst h
  exact hf
theorem o2_r {s : Option δ} {b : δ} {g : δ → Option β} (h : s = some b) (hf : Ok2 r (g b) Q) : Ok2 r (s.bind g) Q := by
  subst h
  exact hf
theorem o2_lO {r : Option γ} {p : γ → Prop} {f : γ → Option α} (h : Ok r p) (hf : ∀ a, p a → Ok2 (f a) s Q) : Ok2 (r.bind f) s Q := by
  obtain ⟨a, rfl, ha⟩ := h
  exact hf a ha
theorem o2_rO {s : Option δ} {p : δ → Prop} {g : δ → Option β} (h : Ok s p) (hf : ∀ a, p a → Ok2 r (g a) Q) : Ok2 r (s.bind g) Q := by
  obtain ⟨a, rfl, ha⟩ := h
  exact hf a ha
theorem o2_bvl {a : γ} {f : γ → Option α} (h : Ok2 (f a) s Q) : Ok2 (bv a f) s Q := h
theorem o2_bvr {a : γ} {g : γ → Option β} (h : Ok2 r (g a) Q) : Ok2 r (bv a g) Q := h
theorem o2_pl {c : Prop} [Decidable c] {r' : Option α} (h : c) (h1 : Ok2 r s Q) : Ok2 (if c then r else r') s Q := by
  rw [if_pos h]
  exact h1
theorem o2_nl {c : Prop} [Decidable c] {r' : Option α} (h : ¬ c) (h1 : Ok2 r s Q) : Ok2 (if c then r' else r) s Q := by
  rw [if_neg h]
  exact h1
theorem o2_pr {c : Prop} [Decidable c] {s' : Option β} (h : c) (h1 : Ok2 r s Q) : Ok2 r (if c then s else s') Q := by
  rw [if_pos h]
  exact h1
theorem o2_nr {c : Prop} [Decidable c] {s' : Option β} (h : ¬ c) (h1 : Ok2 r s Q) : Ok2 r (if c then s' else s) Q := by
  rw [if_neg h]
  exact h1
theorem o2_mono {Q' : α → β → Prop} (h : Ok2 r s Q') (hq : ∀ a b, Q' a b → Q a b) : Ok2 r s Q := by
  obtain ⟨a, b, e1, e2, hp⟩ := h
  exact ⟨a, b, e1, e2, hq a b hp⟩
theorem o2_of {p : α → Prop} {q : β → Prop} (h : Ok r p) (g : Ok s q) (hq : ∀ a b, p a → q b → Q a b) : Ok2 r s Q := by
  obtain ⟨a, e1, ha⟩ := h
  obtain ⟨b, e2, hb⟩ := g
  exact ⟨a, b, e1, e2, hq a b ha hb⟩
theorem o2_fst (h : Ok2 r s Q) : Ok r (fun _ => True) := by
  obtain ⟨a, b, e1, e2, hp⟩ := h
  exact ⟨a, e1, trivial⟩
end Ok2s
/-! both at one token, or both at one fault -/
def PT (b : Nat → Nat) (k : Nat) (x : Tk) (σ ρ : Mem) : Prop := CTok b k x σ ∧ RTok b k x ρ ∧ TW b k x ∧ σ.1 2 5 = 0 ∧ ρ.1 1000 2 = 0
def PX (σ ρ : Mem) : Prop := ∃ c p, 0 < c ∧ c ≤ 5 ∧ σ.1 2 5 = nI c ∧ ρ.1 1000 2 = nI c ∧ σ.1 2 6 = nI p ∧ ρ.1 1000 3 = nI p
def Fc (σ σ' : Mem) : Prop := Fr [3] [(2, 5), (2, 6)] σ σ'
def Fm (ρ ρ' : Mem) : Prop := Fr [5000] [(1000, 2), (1000, 3), (1000, 4), (1000, 6), (1000, 7), (1000, 8)] ρ ρ' ∧ LN ρ ρ'
theorem Fc.refl {σ : Mem} : Fc σ σ := Fr.refl
theorem Fc.trans {σ σ1 σ2 : Mem} (h : Fc σ σ1) (g : Fc σ1 σ2) : Fc σ σ2 := Fr.trans h g
theorem Fm.refl {ρ : Mem} : Fm ρ ρ := ⟨Fr.refl, fun _ _ => rfl⟩
theorem Fm.trans {ρ ρ1 ρ2 : Mem} (h : Fm ρ ρ1) (g : Fm ρ1 ρ2) : Fm ρ ρ2 := ⟨Fr.trans h.1 g.1, h.2.trans g.2⟩
theorem Fc.at {σ σ' : Mem} (h : Fc σ σ') (a c : Nat) (h3 : a ≠ 3) (h2 : a = 2 → c ≠ 5 ∧ c ≠ 6) : σ'.1 a c = σ.1 a c := h.1 a c (by simp; exact h3) (by simp; omega)
theorem Fm.at {ρ ρ' : Mem} (h : Fm ρ ρ') (a c : Nat) (h3 : a < 5000) (h2 : a = 1000 → 8 < c ∨ c = 5 ∨ c < 2) : ρ'.1 a c = ρ.1 a c := h.1.1 a c (by simp; omega) (by simp; omega)
theorem PX.neC {σ ρ : Mem} (h : PX σ ρ) : σ.1 2 5 ≠ 0 := by
  obtain ⟨c, p, h0, h5, e, _⟩ := h
  rw [e, show (0 : Int32) = nI 0 from rfl, Ne, ni_inj (by omega) (by omega)]
  omega
theorem PX.neM {σ ρ : Mem} (h : PX σ ρ) : ρ.1 1000 2 ≠ 0 ∧ ¬ ρ.1 1000 2 ≤ 0 := by
  obtain ⟨c, p, h0, h5, _, e, _⟩ := h
  rw [e, show (0 : Int32) = nI 0 from rfl, Ne, ni_inj (by omega) (by omega), ni_le (by omega) (by omega)]
  omega
theorem PX.o {σ ρ : Mem} (h : PX σ ρ) {o c o' c' : Nat} {v v' : Int32} (h2 : o ≠ 2) (h1 : o' ≠ 1000) : PX (sI σ o c v) (sI ρ o' c' v') := by
  obtain ⟨c, p, h0, h5, e1, e2, e3, e4⟩ := h
  exact ⟨c, p, h0, h5, by rw [sI_n (Ne.symm h2)]; exact e1, by rw [sI_n (Ne.symm h1)]; exact e2, by rw [sI_n (Ne.symm h2)]; exact e3, by rw [sI_n (Ne.symm h1)]; exact e4⟩
theorem PX.cong {σ ρ σ' ρ' : Mem} (h : PX σ ρ) (e1 : σ'.1 2 5 = σ.1 2 5) (e2 : σ'.1 2 6 = σ.1 2 6) (e3 : ρ'.1 1000 2 = ρ.1 1000 2) (e4 : ρ'.1 1000 3 = ρ.1 1000 3) : PX σ' ρ' := by
  unfold PX
  rw [e1, e2, e3, e4]
  exact h
section Sts
variable {b : Nat → Nat} {k : Nat} {x : Tk} {σ ρ : Mem}
theorem t_next (hb : TB b k) (h1 : x.1 ≠ 1) (h : PT b k x σ ρ) : Ok2 (X9_next σ) (X12_token ρ) (fun σ' ρ' => PT b k (nxt b k x.2.2) σ' ρ' ∧ Fc σ σ' ∧ Fm ρ ρ') := by
  obtain ⟨c1, c2, c3, c4, c5⟩ := h
  refine o2_of (ok_fr (nextC_ok hb c1.1 c3.2.1 c1.2.2.1) (fr_X9_next σ Fr.refl)) (ok_fr (tokenM_ok hb c2.1 c3.2.1 (c2.2.2.2.1 h1)) (fr_X12_token ρ Fr.refl)) (fun σ' ρ' g g' => ⟨⟨g.1, g'.1.1, (nxt_wf c3.2.1).1, ?_, ?_⟩, ?_, ?_, g'.1.2⟩)
  · exact (g.2.1 2 5 (by decide) (by decide)).trans c4
  · exact (g'.2.1 1000 2 (by decide) (by decide)).trans c5
  · exact g.2.mono (by unfold L_X9_next; simp) (by unfold K_X9_next; simp)
  · exact g'.2.mono (by unfold L_X12_token; simp) (by unfold K_X12_token; simp)
theorem t_fail {v : Nat} (h0 : 0 < v) (h5 : v ≤ 5) (h : PT b k x σ ρ) : Ok2 (X5_fail (nI v) σ) (X12_wrong (nI v) ρ) (fun σ' ρ' => PX σ' ρ' ∧ Fc σ σ' ∧ Fm ρ ρ') := by
  obtain ⟨c1, c2, c3, c4, c5⟩ := h
  have hc := fcode_pos x h0 h5
  refine ⟨_, _, fail_ok c3 c1 c4, wrong_ok c3 c2 c5, ⟨_, _, hc.1, hc.2, ?_, ?_, sI_e _ _ _ _, sI_e _ _ _ _⟩, ?_, ?_, fun _ _ => rfl⟩
  · rw [sI_k (by decide), sI_e]
  · rw [sI_k (by decide), sI_e]
  · exact frIk (frIk Fr.refl (by simp)) (by simp)
  · exact frIk (frIk Fr.refl (by simp)) (by simp)
/-- the state between steps: F holds as long as there is no fault -/
def Dz (b : Nat → Nat) (k s : Nat) (F : Prop) (σ ρ : Mem) : Prop := (∃ x, PT b k x σ ρ ∧ s ≤ x.2.1 ∧ F) ∨ PX σ ρ
theorem expectX {v : Int32} (h : σ.1 2 5 ≠ 0) : X5_expect v σ = some σ := by
  unfold X5_expect
  rw [isAtB_ok h, Option.bind_some]
  show (if (0 : Int32) = 0 then (X5_fail 2 σ).bind _ else _) = _
  rw [if_pos rfl, failB_ok h]
  rfl
theorem expectNumberX {v v' : Int32} (h : σ.1 2 5 ≠ 0) : X5_expectNumber v v' σ = some (0, σ) := by
  unfold X5_expectNumber
  rw [isAtB_ok h, Option.bind_some]
  show (if (0 : Int32) = 0 then (X5_fail 2 σ).bind _ else _) = _
  rw [if_pos rfl, failB_ok h]
  rfl
theorem numberBehindX {v v' : Int32} (h : σ.1 2 5 ≠ 0) : X5_numberBehind v v' σ = some (0, σ) := by
  unfold X5_numberBehind
  rw [isAtB_ok h, Option.bind_some]
  exact if_pos rfl
theorem wantX {c : Int64} (h : ¬ ρ.1 1000 2 ≤ 0) : X12_want c ρ = some ρ := by
  unfold X12_want
  rw [if_neg h]
theorem toldNumberX {v v' : Int32} (h : ¬ ρ.1 1000 2 ≤ 0) : X12_toldNumber v v' ρ = some (0, ρ) := by
  unfold X12_toldNumber
  rw [if_neg h]
theorem optionX {c : Int64} {v : Int32} (h : ¬ ρ.1 1000 2 = 0) : X12_option c v ρ = some (0, ρ) := by
  unfold X12_option
  rw [if_neg h]
theorem PT.ne (h : PT b k x σ ρ) {v : Nat} (h1 : v ≠ 1) (h3 : v ≠ 3) (hv : v < 100) : ρ.1 1000 6 = nI v ↔ σ.1 3 2 = nI v := by
  rw [h.2.1.2.2.1, h.1.2.2.2.1]
  exact kind_sort h.2.2.1 h1 h3 hv
theorem own_tok (h : PT b k x σ ρ) {i : Nat} (hi : i < 23) (hk : kindC b x = nI (100 + i)) : x.1 = 3 := ((kindC_own h.2.2.1 hi).mp hk).1
theorem adv (h : PT b k x σ ρ) (h0 : x.1 ≠ 0) : x.2.1 < (nxt b k x.2.2).2.1 := by
  have := h.2.2.1.2.2.1 h0
  have := (nxt_wf (b := b) h.2.2.1.2.1).2
  omega
theorem st_expect {s : Nat} {F : Prop} {i : Nat} {c : Int64} (hb : TB b k) (hi : i < 23) (hc : c = pack (OW.getD i [])) (h : Dz b k s F σ ρ) : Ok2 (X5_expect (nI (100 + i)) σ) (X12_want c ρ) (fun σ' ρ' => Dz b k s F σ' ρ' ∧ Fc σ σ' ∧ Fm ρ ρ') := by
  rcases h with ⟨x, h, hs, hF⟩ | h
  · unfold X5_expect X12_want
    rw [isAt_ok h.2.2.2.1, Option.bind_some, isWordM_ok i h.2.2.1 h.2.1 hi hc, Option.bind_some, h.1.2.2.2.1]
    refine o2_pr (by rw [h.2.2.2.2]; exact Int32.le_refl _) ?_
    by_cases z : kindC b x = nI (100 + i)
    · have h3 := own_tok h hi z
      rw [decide_eq_true z]
      refine o2_nl one_ne (o2_nr one_ne (o2_bind (t_next hb (by omega) h) (fun σ1 ρ1 g => o2_some ⟨.inl ⟨_, g.1, ?_, hF⟩, g.2⟩)))
      have := adv h (by omega)
      omega
    · rw [decide_eq_false z]
      exact o2_pl rfl (o2_pr rfl (o2_bind (t_fail (v := 2) (by decide) (by decide) h) (fun σ1 ρ1 g => o2_some ⟨.inr g.1, g.2⟩)))
  · exact ⟨_, _, expectX h.neC, wantX h.neM.2, .inr h, Fc.refl, Fm.refl⟩
theorem numV_lt (b : Nat → Nat) : ∀ n p v, (∀ m, m < n → isDg (b (p + m)) = true) → numV b n p v < (v + 1) * 10 ^ n
  | 0, p, v, _ => by
    show v < (v + 1) * 1
    omega
  | n + 1, p, v, h => by
    have h0 := h 0 (by omega)
    unfold isDg at h0
    rw [Nat.add_zero, Bool.and_eq_true, decide_eq_true_eq, decide_eq_true_eq] at h0
    have := numV_lt b n (p + 1) (10 * v + (b p - 48)) (fun m hm => by rw [show p + 1 + m = p + (m + 1) by omega]; exact h (m + 1) (by omega))
    rw [numV]
    refine Nat.lt_of_lt_of_le this ?_
    rw [Nat.pow_succ, Nat.mul_comm (10 ^ n) 10, ← Nat.mul_assoc]
    exact Nat.mul_le_mul_right _ (by omega)
theorem num_lt (hw : TW b k x) (h2 : x.1 = 2) : numV b (x.2.2 - x.2.1) x.2.1 0 < 10000 := by
  obtain ⟨h4, hd⟩ := hw.2.2.2.2.1 h2
  have := numV_lt b _ _ 0 hd
  have : 10 ^ (x.2.2 - x.2.1) ≤ 10 ^ 4 := Nat.pow_le_pow_right (by omega) h4
  omega
/-- a number that both read -/
def NumR (x1 x2 : Int32) (r t : Int32) : Prop := r = t ∧ (∃ v, v < 10000 ∧ r = nI v) ∧ ¬ r < x1 ∧ r ≤ x2
theorem st_number {s : Nat} {F : Prop} {x1 x2 y1 y2 : Int32} (hb : TB b k) (hF : F → x1 = y1 ∧ x2 = y2) (h : Dz b k s F σ ρ) : Ok2 (X5_expectNumber x1 x2 σ) (X12_toldNumber y1 y2 ρ) (fun r t => Dz b k s (F ∧ NumR x1 x2 r.1 t.1) r.2 t.2 ∧ Fc σ r.2 ∧ Fm ρ t.2) := by
  rcases h with ⟨x, h, hs, hf⟩ | h
  · obtain ⟨e1, e2⟩ := hF hf
    subst e1
    subst e2
    unfold X5_expectNumber X12_toldNumber
    rw [isAt_ok h.2.2.2.1, Option.bind_some]
    refine o2_pr (by rw [h.2.2.2.2]; exact Int32.le_refl _) ?_
    have hk : ρ.1 1000 6 = 2 ↔ σ.1 3 2 = 2 := h.ne (v := 2) (by decide) (by decide) (by decide)
    by_cases z : σ.1 3 2 = 2
    · have hx2 : x.1 = 2 := (kindC_low h.2.2.1 (v := 2) (by decide) (by decide)).mp (by rw [← h.1.2.2.2.1]; exact z)
      have eC := h.1.2.2.2.2 hx2
      have eM := h.2.1.2.2.2.2.1 hx2
      have hlt := num_lt h.2.2.1 hx2
      rw [decide_eq_true z]
      refine o2_nl one_ne (o2_pr (hk.mpr z) (o2_bvl ?_))
      have fail4 : Ok2 (X5_expectNumber_33 σ) (X12_toldNumber_41 X12_toldNumber_46 ρ) (fun r t => Dz b k s (F ∧ NumR x1 x2 r.1 t.1) r.2 t.2 ∧ Fc σ r.2 ∧ Fm ρ t.2) := by
        unfold X5_expectNumber_33 X12_toldNumber_41
        refine o2_bind (t_fail (v := 4) (by decide) (by decide) h) (fun σ1 ρ1 g => ?_)
        unfold X12_toldNumber_46
        exact o2_bvr (o2_nr g.1.neM.1 (o2_some ⟨.inr g.1, g.2⟩))
      rw [eM]
      show Ok2 (if σ.1 3 5 < x1 then _ else _) _ _
      rw [eC]
      by_cases y : nI (numV b (x.2.2 - x.2.1) x.2.1 0) < x1
      · exact o2_pl y (o2_pr y fail4)
      · refine o2_nl y (o2_nr y ?_)
        by_cases w : nI (numV b (x.2.2 - x.2.1) x.2.1 0) ≤ x2
        · refine o2_pl w (o2_pr w ?_)
          unfold X12_toldNumber_46
          refine o2_bvr (o2_pr h.2.2.2.2 (o2_bind (t_next hb (by omega) h) (fun σ1 ρ1 g => o2_some ⟨.inl ⟨_, g.1, ?_, hf, ?_, ⟨_, hlt, rfl⟩, y, w⟩, g.2⟩)))
          · have := adv h (by omega)
            omega
          · exact eM.symm
        · exact o2_nl w (o2_nr w fail4)
    · rw [decide_eq_false z]
      refine o2_pl rfl (o2_nr (fun e => z (hk.mp e)) (o2_bind (t_fail (v := 2) (by decide) (by decide) h) (fun σ1 ρ1 g => ?_)))
      unfold X12_toldNumber_46
      exact o2_bvr (o2_nr g.1.neM.1 (o2_some ⟨.inr g.1, g.2⟩))
  · exact ⟨_, _, expectNumberX h.neC, toldNumberX h.neM.2, .inr h, Fc.refl, Fm.refl⟩
theorem st_option {s : Nat} {F : Prop} {x2 y2 : Int32} {i : Nat} {c : Int64} (hb : TB b k) (hi : i < 23) (hc : c = pack (OW.getD i [])) (hF : F → x2 = y2 ∧ 0 ≤ x2) (h : Dz b k s F σ ρ) : Ok2 (X5_numberBehind (nI (100 + i)) x2 σ) (X12_option c y2 ρ) (fun r t => Dz b k s (F ∧ NumR 0 x2 r.1 t.1) r.2 t.2 ∧ Fc σ r.2 ∧ Fm ρ t.2) := by
  rcases h with ⟨x, h, hs, hf⟩ | h
  · obtain ⟨e2, h0⟩ := hF hf
    have hD : Dz b k s F σ ρ := .inl ⟨x, h, hs, hf⟩
    unfold X5_numberBehind X12_option
    rw [isAt_ok h.2.2.2.1, Option.bind_some, isWordM_ok i h.2.2.1 h.2.1 hi hc, Option.bind_some, h.1.2.2.2.1]
    refine o2_pr h.2.2.2.2 ?_
    by_cases z : kindC b x = nI (100 + i)
    · have h3 := own_tok h hi z
      have hlt := adv h (by omega)
      rw [decide_eq_true z]
      refine o2_nl one_ne (o2_nr one_ne ?_)
      unfold X12_told X12_want
      show Ok2 ((X9_next σ).bind _) ((((if ρ.1 1000 2 ≤ 0 then (X12_isWord c ρ).bind _ else _ : Option Mem).bind _) : Option (Int32 × Mem)).bind _) _
      rw [if_pos (show ρ.1 1000 2 ≤ 0 by rw [h.2.2.2.2]; exact Int32.le_refl _), isWordM_ok i h.2.2.1 h.2.1 hi hc, Option.bind_some, decide_eq_true z]
      show Ok2 _ ((((if (1 : Int32) = 0 then _ else (X12_token ρ).bind _ : Option Mem).bind _) : Option (Int32 × Mem)).bind _) _
      rw [if_neg one_ne, Option.bind_assoc, Option.bind_assoc]
      refine o2_bind (t_next hb (by omega) h) (fun σ1 ρ1 g => ?_)
      rw [Option.bind_some, Option.bind_assoc]
      refine o2_bind (st_number (F := F) (x1 := 0) (x2 := x2) (y1 := 0) (y2 := y2) (s := s) hb (fun _ => ⟨rfl, e2⟩) (.inl ⟨_, g.1, by omega, hf⟩)) (fun r t q => ?_)
      exact o2_some ⟨q.1, g.2.1.trans q.2.1, g.2.2.trans q.2.2⟩
    · rw [decide_eq_false z]
      refine o2_pl rfl (o2_pr rfl (o2_some ⟨.inl ⟨x, h, hs, hf, rfl, ⟨0, by decide, rfl⟩, (show ¬ (0 : Int32) < 0 by decide), h0⟩, Fc.refl, Fm.refl⟩))
  · exact ⟨_, _, numberBehindX h.neC, optionX h.neM.1, .inr h, Fc.refl, Fm.refl⟩
theorem told_bind {α : Type} {c : Int64} {v v' : Int32} {g : Int32 × Mem → Option α} : (X12_told c v v' ρ).bind g = (X12_want c ρ).bind fun ρ1 => (X12_toldNumber v v' ρ1).bind g := by
  unfold X12_told
  rw [Option.bind_assoc]
  congr 1
  funext ρ1
  rw [Option.bind_assoc]
  congr 1
end Sts
