/-! town: the class while a formula is read -/
theorem ok_unbind {α β : Type} {r : Option β} {f : β → Option α} {Q : α → Prop} (h : Ok (r.bind f) Q) : Ok r (fun a => Ok (f a) Q) := by
  cases r with
  | none =>
    obtain ⟨a, e, _⟩ := h
    cases e
  | some y => exact ⟨y, rfl, h⟩
theorem ok_bindB {α β : Type} {r : Option β} {f : β → Option α} {Q : α → Prop} (h : Ok r (fun a => Ok (f a) Q)) : Ok (r.bind f) Q := ok_bind h (fun _ g => g)
def LFc (f : Nat) : List Nat := [3, f + 1, f + 2, f + 4]
def KFc (u f : Nat) : List (Nat × Nat) := [(2, 4), (2, 5), (2, 6), (u, 14), (f, 4), (f, 6), (f, 7)]
def CF (b : Nat → Nat) (k u f : Nat) (x : Tk) (out : Pg) (own all : Nat) (σ : Mem) : Prop := CTok b k x σ ∧ σ.1 2 5 = 0 ∧ σ.1 2 3 = nI u ∧ σ.1 2 4 = nI own ∧ σ.1 u 14 = nI all ∧ CO out f σ
def CX (f c p : Nat) (σ : Mem) : Prop := σ.1 2 5 = nI c ∧ σ.1 2 6 = nI p ∧ ∃ m, m ≤ 270 ∧ σ.1 f 4 = nI m
theorem CTok.keep {b : Nat → Nat} {k : Nat} {x : Tk} {σ σ' : Mem} (h : CTok b k x σ) (e3 : σ'.1 3 = σ.1 3) (e1 : σ'.1 1 = σ.1 1) (e6 : σ'.1 2 6 = σ.1 2 6) : CTok b k x σ' := by
  unfold CTok TC
  rw [e3, e1, e6]
  exact h
theorem CTok.o {b : Nat → Nat} {k o c : Nat} {v : Int32} {x : Tk} {σ : Mem} (h : CTok b k x σ) (h3 : 3 ≠ o) (h1 : 1 ≠ o ∧ (2 ≠ o ∨ 6 ≠ c)) : CTok b k x (sI σ o c v) :=
  h.keep (by funext d; rw [sI_n h3]) (by funext d; rw [sI_n h1.1]) (by rw [sI_r, if_neg (by omega)])
section CFs
variable {b : Nat → Nat} {k u f own all : Nat} {x : Tk} {out : Pg} {σ : Mem}
theorem cNext (hb : TB b k) (hu : 3 < u) (hf : u < f) (hw : TW b k x) (h : CF b k u f x out own all σ) : Ok (X9_next σ) (fun σ' => CF b k u f (nxt b k x.2.2) out own all σ' ∧ Fr (LFc f) (KFc u f) σ σ') := by
  refine ok_mono (ok_fr (nextC_ok hb h.1.1 hw.2.1 h.1.2.2.1) (fr_X9_next σ Fr.refl)) (fun σ' g => ?_)
  have e : ∀ a c, a ≠ 3 → σ'.1 a c = σ.1 a c := fun a c h3 => g.2.1 a c (by unfold L_X9_next; simp) (by unfold K_X9_next; simp; omega)
  refine ⟨⟨g.1, (e _ _ (by decide)).trans h.2.1, (e _ _ (by decide)).trans h.2.2.1, (e _ _ (by decide)).trans h.2.2.2.1, (e _ _ (by omega)).trans h.2.2.2.2.1, h.2.2.2.2.2.keep (e _ _ (by omega)) (e _ _ (by omega)) (e _ _ (by omega)) (by funext c; exact e _ _ (by omega)) (by funext c; exact e _ _ (by omega)) (by funext c; exact e _ _ (by omega))⟩, ?_⟩
  exact g.2.mono (by unfold L_X9_next; simp) (by unfold K_X9_next LFc; simp)
theorem cFail (hw : TW b k x) (h : CF b k u f x out own all σ) (hf : 2 < f) (hl : out.length ≤ 270) : Ok (X5_fail 2 σ) (fun σ' => CX f (fcode x 2) x.2.1 σ' ∧ Fr (LFc f) (KFc u f) σ σ') := by
  refine ⟨_, fail_ok (v := 2) hw h.1 h.2.1, ⟨?_, ?_, out.length, hl, ?_⟩, frIk (frIk Fr.refl (.inl (by unfold KFc; simp))) (.inl (by unfold KFc; simp))⟩
  · rw [sI_k (by decide), sI_e]
  · rw [sI_e]
  · rw [sI_n (by omega), sI_n (by omega)]
    exact h.2.2.2.2.2.1.1
theorem CX.ne {c p : Nat} (h : CX f c p σ) (h0 : 0 < c) (h5 : c ≤ 5) : σ.1 2 5 ≠ 0 := by
  rw [h.1, show (0 : Int32) = nI 0 from rfl, Ne, ni_inj (by omega) (by omega)]
  omega
theorem addX {c p : Nat} {s : Int32} (h : CX f c p σ) (hf : 3 < f) : Ok (X2_addOperation f s σ) (fun σ' => CX f c p σ' ∧ Fr (LFc f) (KFc u f) σ σ') := by
  obtain ⟨m, hm, h4⟩ := h.2.2
  by_cases z : m < 270
  · rw [addOpRaw h4 z]
    refine ok_some ⟨⟨?_, ?_, m + 1, by omega, sI_e _ _ _ _⟩, frIk (frI Fr.refl (by unfold LFc; simp)) (.inl (by unfold KFc; simp))⟩
    · rw [sI_n (by omega), sI_n (by omega)]
      exact h.1
    · rw [sI_n (by omega), sI_n (by omega)]
      exact h.2.1
  · unfold X2_addOperation
    rw [h4]
    exact ok_pos (by rw [show (270 : Int32) = nI 270 from rfl, ni_le (by omega) (by omega)]; omega) (ok_some ⟨h, Fr.refl⟩)
theorem cAdd {s : Int32} {c : Int32 × Int32} (h : CF b k u f x out own all σ) (hu : 3 < u) (hf : u < f) (hl : out.length < 270) (he : ∀ a, encR s a c) (h0 : c.1 ≠ 0) (h1 : c.1 ≠ 1) : Ok (X2_addOperation f s σ) (fun σ' => CF b k u f x (out ++ [c]) own all σ' ∧ Fr (LFc f) (KFc u f) σ σ') := by
  refine ok_mono (addOp_ok h.2.2.2.2.2 hl he h0 h1) (fun σ' g => ?_)
  have e : ∀ a c, a ≠ f → a ≠ f + 1 → σ'.1 a c = σ.1 a c := fun a c g1 g2 => g.2.1 a c (by simp; omega) (by simp; omega)
  exact ⟨⟨h.1.keep (by funext c; exact e _ _ (by omega) (by omega)) (by funext c; exact e _ _ (by omega) (by omega)) (e _ _ (by omega) (by omega)), (e _ _ (by omega) (by omega)).trans h.2.1, (e _ _ (by omega) (by omega)).trans h.2.2.1, (e _ _ (by omega) (by omega)).trans h.2.2.2.1, (e _ _ (by omega) (by omega)).trans h.2.2.2.2.1, g.1⟩, g.2.mono (by unfold LFc; simp) (by unfold KFc; simp)⟩
theorem cCount (h : CF b k u f x out own all σ) (hu : 3 < u) (hf : u < f) : CF b k u f x out (own + 1) (all + 1) (sI (sI σ 2 4 (nI (own + 1))) u 14 (nI (all + 1))) ∧ Fr (LFc f) (KFc u f) σ (sI (sI σ 2 4 (nI (own + 1))) u 14 (nI (all + 1))) := by
  refine ⟨⟨(h.1.o (by decide) (by decide)).o (by omega) (by omega), ?_, ?_, ?_, sI_e _ _ _ _, ?_⟩, frIk (frIk Fr.refl (.inl (by unfold KFc; simp))) (.inl (by unfold KFc; simp))⟩
  · rw [sI_n (by omega), sI_k (by decide)]
    exact h.2.1
  · rw [sI_n (by omega), sI_k (by decide)]
    exact h.2.2.1
  · rw [sI_n (by omega), sI_e]
  · refine h.2.2.2.2.2.keep ?_ ?_ ?_ ?_ ?_ ?_
    all_goals first
      | rw [sI_n (by omega), sI_n (by omega)]
      | (funext c; rw [sI_n (by omega), sI_n (by omega)])
theorem cLeaf (hb : TB b k) (hu : 3 < u) (hf : u < f) (hw : TW b k x) (h : CF b k u f x out own all σ) (hx : isUnit b x) (hl : out.length < 270) (hp : (pos out 0).length < 30) {R : Nat → Nat → Int32 → Mem → Option Mem} : Ok (if (if kindC b x = 2 then (0 : Int32) else 1) = 0 then (X2_addNumber f (σ.1 3 5) σ).bind fun σ9 => X5_readUnit_189 R f σ9 else (X2_addGiven f (σ.1 3 2 - 116) σ).bind fun σ10 => X5_readUnit_189 R f σ10) (fun σ' => CF b k u f (nxt b k x.2.2) (out ++ [leaf b x]) own all σ' ∧ Fr (LFc f) (KFc u f) σ σ') := by
  have fin : ∀ σ1, CF b k u f x (out ++ [leaf b x]) own all σ1 → Fr (LFc f) (KFc u f) σ σ1 → Ok (X5_readUnit_189 R f σ1) (fun σ' => CF b k u f (nxt b k x.2.2) (out ++ [leaf b x]) own all σ' ∧ Fr (LFc f) (KFc u f) σ σ') := fun σ1 g1 g2 => by
    unfold X5_readUnit_189
    exact ok_bind (cNext hb hu hf hw g1) (fun σ2 q => ok_some ⟨q.1, g2.trans q.2⟩)
  unfold leaf at *
  by_cases z : kindC b x = 2
  · have h2 : x.1 = 2 := (kindC_low hw (v := 2) (by decide) (by decide)).mp z
    rw [if_pos z] at fin ⊢
    rw [if_pos rfl, h.1.2.2.2.2 h2]
    rw [if_pos z]
    refine ok_bind (addNum_ok h.2.2.2.2.2 hl hp) (fun σ1 g => fin σ1 ?_ (g.2.mono (by unfold LFc; simp) (by unfold KFc; simp)))
    have e : ∀ a c, a ≠ f → a ≠ f + 1 → a ≠ f + 2 → a ≠ f + 4 → σ1.1 a c = σ.1 a c := fun a c g1 g2 g3 g4 => g.2.1 a c (by simp; omega) (by simp; omega)
    exact ⟨h.1.keep (by funext c; exact e _ _ (by omega) (by omega) (by omega) (by omega)) (by funext c; exact e _ _ (by omega) (by omega) (by omega) (by omega)) (e _ _ (by omega) (by omega) (by omega) (by omega)), (e _ _ (by omega) (by omega) (by omega) (by omega)).trans h.2.1, (e _ _ (by omega) (by omega) (by omega) (by omega)).trans h.2.2.1, (e _ _ (by omega) (by omega) (by omega) (by omega)).trans h.2.2.2.1, (e _ _ (by omega) (by omega) (by omega) (by omega)).trans h.2.2.2.2.1, g.1⟩
  · rw [if_neg z] at fin ⊢
    rw [if_neg one_ne, h.1.2.2.2.1]
    rw [if_neg z]
    rcases askK_cases (kindC b x) with ⟨_, no⟩ | ⟨g, hg, e1, e2⟩
    · rcases hx with hx | ⟨g, hg, e⟩
      · exact absurd hx z
      · exact absurd e (no g hg)
    · rw [e2] at fin ⊢
      rw [e1, show (116 : Int32) = nI 116 from rfl, ni_sub (by omega), show 116 + g - 116 = g by omega]
      refine ok_bind (addGiv_ok h.2.2.2.2.2 hl hg) (fun σ1 g => fin σ1 ?_ (g.2.mono (by unfold LFc; simp) (by unfold KFc; simp)))
      have e : ∀ a c, a ≠ f → a ≠ f + 1 → a ≠ f + 2 → a ≠ f + 4 → σ1.1 a c = σ.1 a c := fun a c g1 g2 g3 g4 => g.2.1 a c (by simp; omega) (by simp; omega)
      exact ⟨h.1.keep (by funext c; exact e _ _ (by omega) (by omega) (by omega) (by omega)) (by funext c; exact e _ _ (by omega) (by omega) (by omega) (by omega)) (e _ _ (by omega) (by omega) (by omega) (by omega)), (e _ _ (by omega) (by omega) (by omega) (by omega)).trans h.2.1, (e _ _ (by omega) (by omega) (by omega) (by omega)).trans h.2.2.1, (e _ _ (by omega) (by omega) (by omega) (by omega)).trans h.2.2.2.1, (e _ _ (by omega) (by omega) (by omega) (by omega)).trans h.2.2.2.2.1, g.1⟩
/-! which way the class reads a unit -/
theorem ru_leaf {R : Nat → Nat → Int32 → Mem → Option Mem} {x2 : Int32} (h : CF b k u f x out own all σ) (hx : isUnit b x) : X5_readUnit R f x2 σ = X5_readUnit_69 R f x2 (if kindC b x = 2 then 0 else 1) 1 σ := by
  have h5 := h.2.1
  have hk := h.1.2.2.2.1
  unfold X5_readUnit X5_isGood
  rw [if_pos h5, Option.bind_some]
  show (if (1 : Int32) = 0 then _ else if σ.1 3 2 < 116 then X5_readUnit_35 R f (X5_readUnit_36 R f) x2 σ else if 123 ≤ σ.1 3 2 then X5_readUnit_35 R f (X5_readUnit_36 R f) x2 σ else X5_readUnit_36 R f x2 1 σ) = _
  rw [if_neg one_ne, hk]
  rcases hx with e | ⟨g, hg, e⟩
  · rw [if_pos (by rw [e]; decide), if_pos e]
    unfold X5_readUnit_35 X5_readUnit_36 X5_readUnit_64
    rw [if_pos rfl, isAt_ok h5, Option.bind_some, hk, e]
    rfl
  · rw [e, if_neg (by rw [show (116 : Int32) = nI 116 from rfl, ni_lt (by omega) (by omega)]; omega), if_neg (by rw [show (123 : Int32) = nI 123 from rfl, ni_le (by omega) (by omega)]; omega), if_neg (by rw [show (2 : Int32) = nI 2 from rfl, ni_inj (by omega) (by omega)]; omega)]
    rfl
theorem ru_other {R : Nat → Nat → Int32 → Mem → Option Mem} {d : Nat} (hw : TW b k x) (h : CF b k u f x out own all σ) (hx : ¬ isUnit b x) (hd : d ≤ 1000) : X5_readUnit R f (nI d) σ = X5_readUnit_69 R f (nI d) 0 (if kindC b x = 40 ∧ d ≤ 6 then 1 else 0) σ := by
  have h5 := h.2.1
  have hk := h.1.2.2.2.1
  have h2 : ¬ kindC b x = 2 := fun e => hx (.inl e)
  have e36 : X5_readUnit_35 R f (X5_readUnit_36 R f) (nI d) σ = X5_readUnit_69 R f (nI d) 0 (if kindC b x = 40 ∧ d ≤ 6 then 1 else 0) σ := by
    unfold X5_readUnit_35 X5_readUnit_36 X5_readUnit_64 X5_readUnit_68
    rw [if_pos rfl, isAt_ok h5, Option.bind_some, hk, decide_eq_false h2]
    show (if tr false = 0 then (X5_isAt 40 σ).bind _ else _) = _
    rw [if_pos (show tr false = 0 from rfl), isAt_ok h5, Option.bind_some, hk]
    by_cases z : kindC b x = 40
    · rw [decide_eq_true z]
      show (if tr true = 0 then _ else if (6 : Int32) < nI d then X5_readUnit_69 R f (nI d) 0 0 σ else X5_readUnit_69 R f (nI d) 0 1 σ) = _
      rw [if_neg (show ¬ tr true = 0 from one_ne)]
      by_cases y : d ≤ 6
      · rw [if_neg (by rw [show (6 : Int32) = nI 6 from rfl, ni_lt (by omega) (by omega)]; omega), if_pos ⟨z, y⟩]
      · rw [if_pos (by rw [show (6 : Int32) = nI 6 from rfl, ni_lt (by omega) (by omega)]; omega), if_neg (fun e => y e.2)]
    · rw [decide_eq_false z, if_neg (show ¬ (kindC b x = 40 ∧ d ≤ 6) from fun e => z e.1)]
      exact if_pos (show tr false = 0 from rfl)
  unfold X5_readUnit X5_isGood
  rw [if_pos h5, Option.bind_some]
  show (if (1 : Int32) = 0 then _ else if σ.1 3 2 < 116 then X5_readUnit_35 R f (X5_readUnit_36 R f) (nI d) σ else if 123 ≤ σ.1 3 2 then X5_readUnit_35 R f (X5_readUnit_36 R f) (nI d) σ else X5_readUnit_36 R f (nI d) 1 σ) = _
  rw [if_neg one_ne, hk, e36]
  by_cases z : kindC b x < 116
  · rw [if_pos z]
  · rw [if_neg z]
    by_cases y : 123 ≤ kindC b x
    · rw [if_pos y]
    · exfalso
      obtain ⟨g, g1, g2, g3⟩ := rng (x := kindC b x) (a := 116) (b := 122) (by decide) (by decide) z (by
        have y' := Int32.not_le.mp y
        rw [Int32.lt_iff_toInt_lt] at y'
        rw [Int32.le_iff_toInt_le]
        have e1 : (123 : Int32).toInt = 123 := by decide
        have e2 : (nI 122).toInt = 122 := by decide
        omega)
      exact hx (.inr ⟨g - 116, by omega, by rw [g3]; congr 1; omega⟩)
end CFs
