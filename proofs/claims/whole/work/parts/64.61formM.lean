/-! town: the reference while a formula is read -/
def KF : List Nat := [2, 3, 4, 6, 7, 8, 19, 20, 21, 23, 24]
def FW (w : Nat) (ρ ρ' : Mem) : Prop := (∀ a c, a < 2000 → a ≠ 1003 → a ≠ 1004 → a ≠ 1005 → a ≠ 1009 → (a = 1000 → c ∉ KF) → ρ'.1 a c = ρ.1 a c) ∧ (∀ a c, a = 1003 ∨ a = 1004 → c < 320 * w ∨ 320 * w + 320 ≤ c → ρ'.1 a c = ρ.1 a c) ∧ (∀ c, c ≠ w → ρ'.1 1005 c = ρ.1 1005 c) ∧ LN ρ ρ'
section FWs
variable {w : Nat} {ρ ρ' ρ'' : Mem}
theorem FW.refl : FW w ρ ρ := ⟨fun _ _ _ _ _ _ _ _ => rfl, fun _ _ _ _ => rfl, fun _ _ => rfl, fun _ _ => rfl⟩
theorem FW.trans (h : FW w ρ ρ') (g : FW w ρ' ρ'') : FW w ρ ρ'' :=
  ⟨fun a c h0 h1 h2 h3 h4 h5 => (g.1 a c h0 h1 h2 h3 h4 h5).trans (h.1 a c h0 h1 h2 h3 h4 h5), fun a c h1 h2 => (g.2.1 a c h1 h2).trans (h.2.1 a c h1 h2), fun c h1 => (g.2.2.1 c h1).trans (h.2.2.1 c h1), h.2.2.2.trans g.2.2.2⟩
theorem FW.k {c : Nat} {v : Int32} (h : FW w ρ ρ') (hc : c ∈ KF) : FW w ρ (sI ρ' 1000 c v) := by
  refine ⟨fun a d h0 h1 h2 h3 h4 h5 => ?_, fun a d h1 h2 => ?_, fun d h1 => ?_, h.2.2.2⟩
  · rw [sI_r, if_neg (fun e : a = 1000 ∧ d = c => h5 e.1 (by rw [e.2]; exact hc))]
    exact h.1 a d h0 h1 h2 h3 h4 h5
  · rw [sI_n (by omega)]
    exact h.2.1 a d h1 h2
  · rw [sI_n (by decide)]
    exact h.2.2.1 d h1
theorem FW.s9 {j : Nat} {v : Int32} (h : FW w ρ ρ') : FW w ρ (sI ρ' 1009 j v) := by
  refine ⟨fun a d h0 h1 h2 h3 h4 h5 => ?_, fun a d h1 h2 => ?_, fun d h1 => ?_, h.2.2.2⟩
  · rw [sI_n h4]
    exact h.1 a d h0 h1 h2 h3 h4 h5
  · rw [sI_n (by omega)]
    exact h.2.1 a d h1 h2
  · rw [sI_n (by decide)]
    exact h.2.2.1 d h1
theorem FW.ad {j : Nat} {a v z : Int32} (h : FW w ρ ρ') (h1 : 320 * w ≤ j) (h2 : j < 320 * w + 320) : FW w ρ (sI (sI (sI ρ' 1003 j a) 1004 j v) 1005 w z) := by
  refine ⟨fun a d h0 h1 h2 h3 h4 h5 => ?_, fun a d g1 g2 => ?_, fun d g1 => ?_, h.2.2.2⟩
  · rw [sI_n h3, sI_n h2, sI_n h1]
    exact h.1 a d h0 h1 h2 h3 h4 h5
  · rw [sI_n (by omega), sI_k (by omega), sI_k (by omega)]
    exact h.2.1 a d g1 g2
  · rw [sI_k g1, sI_n (by decide), sI_n (by decide)]
    exact h.2.2.1 d g1
theorem FW.tk (h : FW w ρ ρ') (g : Fr L_X12_token K_X12_token ρ' ρ'') (l : LN ρ' ρ'') : FW w ρ ρ'' := by
  refine h.trans ⟨fun a c h0 h1 h2 h3 h4 h5 => g.1 a c (by unfold L_X12_token; simp; omega) (fun e => ?_), fun a c h1 h2 => g.1 a c (by unfold L_X12_token; simp; omega) (fun e => ?_), fun c h1 => g.1 _ c (by decide) (fun e => ?_), l⟩
  · unfold K_X12_token at e
    simp at e
    refine h5 (by omega) ?_
    unfold KF
    simp
    omega
  · unfold K_X12_token at e
    simp at e
    omega
  · unfold K_X12_token at e
    simp at e
end FWs
def RO (w : Nat) (out : Pg) (ρ : Mem) : Prop := ρ.1 1000 19 = nI w ∧ ρ.1 1005 w = nI out.length ∧ ∀ i (h : i < out.length), ρ.1 1003 (320 * w + i) = out[i].1 ∧ ρ.1 1004 (320 * w + i) = out[i].2
def dpS : List Int32 → Nat
  | [] => 0
  | s :: r => (if s = 20 ∨ s = 21 then 1 else 0) + dpS r
def RS (stk : List Int32) (ρ : Mem) : Prop := ρ.1 1000 20 = nI stk.length ∧ VS 0 stk (ρ.1 1009) ∧ ρ.1 1000 24 = nI (dpS stk)
def RF (b : Nat → Nat) (k w : Nat) (x : Tk) (out : Pg) (stk : List Int32) (own all : Nat) (ρ : Mem) : Prop := RTok b k x ρ ∧ ρ.1 1000 2 = 0 ∧ RO w out ρ ∧ RS stk ρ ∧ ρ.1 1000 21 = nI all ∧ ρ.1 1000 23 = nI own
def tgN (s : Int32) : Nat := if s = 21 then 3 else if s = 38 then 2 else if s = 43 then 5 else if s = 45 then 5 else if s = 60 then 4 else if s = 61 then 4 else if s = 62 then 4 else if s = 124 then 1 else 6
theorem tight_ok (s : Int32) (ρ : Mem) : X12_tight s ρ = some (nI (tgN s), ρ) := by
  unfold X12_tight tgN
  by_cases z21 : s = 21
  · rw [if_pos z21, if_pos z21]
    rfl
  rw [if_neg z21, if_neg z21]
  by_cases z38 : s = 38
  · rw [if_pos z38, if_pos z38]
    rfl
  rw [if_neg z38, if_neg z38]
  by_cases z43 : s = 43
  · rw [if_pos z43, if_pos z43]
    rfl
  rw [if_neg z43, if_neg z43]
  by_cases z45 : s = 45
  · rw [if_pos z45, if_pos z45]
    rfl
  rw [if_neg z45, if_neg z45]
  by_cases z60 : s = 60
  · rw [if_pos z60, if_pos z60]
    rfl
  rw [if_neg z60, if_neg z60]
  by_cases z61 : s = 61
  · rw [if_pos z61, if_pos z61]
    rfl
  rw [if_neg z61, if_neg z61]
  by_cases z62 : s = 62
  · rw [if_pos z62, if_pos z62]
    rfl
  rw [if_neg z62, if_neg z62]
  by_cases z124 : s = 124
  · rw [if_pos z124, if_pos z124]
    rfl
  rw [if_neg z124, if_neg z124]
  rfl
theorem tgN_le (s : Int32) : 1 ≤ tgN s ∧ tgN s ≤ 6 := by
  unfold tgN
  repeat' split
  all_goals omega
theorem RTok.keep {b : Nat → Nat} {k : Nat} {x : Tk} {ρ ρ' : Mem} (h : RTok b k x ρ) (e : ∀ c, c = 3 ∨ c = 4 ∨ c = 5 ∨ c = 6 ∨ c = 7 ∨ c = 8 → ρ'.1 1000 c = ρ.1 1000 c) (e1 : ρ'.1 1001 = ρ.1 1001) (e9 : ρ'.2 1000 9 = ρ.2 1000 9) : RTok b k x ρ' := by
  unfold RTok TM
  rw [e 3 (by simp), e 4 (by simp), e 5 (by simp), e 6 (by simp), e 7 (by simp), e 8 (by simp), e1, e9]
  exact h
theorem RTok.k {b : Nat → Nat} {k c : Nat} {v : Int32} {x : Tk} {ρ : Mem} (h : RTok b k x ρ) (hc : ¬ (c = 3 ∨ c = 4 ∨ c = 5 ∨ c = 6 ∨ c = 7 ∨ c = 8)) : RTok b k x (sI ρ 1000 c v) :=
  h.keep (fun d hd => sI_k (fun e : d = c => hc (by rw [← e]; exact hd)) _) (by funext d; rw [sI_n (by decide)]) rfl
theorem RTok.o {b : Nat → Nat} {k o c : Nat} {v : Int32} {x : Tk} {ρ : Mem} (h : RTok b k x ρ) (h0 : 1000 ≠ o) (h1 : 1001 ≠ o) : RTok b k x (sI ρ o c v) :=
  h.keep (fun d _ => sI_n h0 _) (by funext d; rw [sI_n h1]) rfl
section RFs
variable {b : Nat → Nat} {k w own all : Nat} {x : Tk} {out : Pg} {stk : List Int32} {ρ : Mem}
theorem rTok_ok (hb : TB b k) (hw : TW b k x) (h1 : x.1 ≠ 1) (h : RF b k w x out stk own all ρ) : Ok (X12_token ρ) (fun ρ' => RF b k w (nxt b k x.2.2) out stk own all ρ' ∧ FW w ρ ρ') := by
  refine ok_mono (ok_fr (tokenM_ok hb h.1.1 hw.2.1 (h.1.2.2.2.1 h1)) (fr_X12_token ρ Fr.refl)) (fun ρ' g => ?_)
  have f : ∀ a c, a < 2000 → (a, c) ∉ K_X12_token → ρ'.1 a c = ρ.1 a c := fun a c h1 h2 => g.2.1 a c (by unfold L_X12_token; simp; omega) h2
  refine ⟨⟨g.1.1, (f _ _ (by decide) (by decide)).trans h.2.1, ⟨(f _ _ (by decide) (by decide)).trans h.2.2.1.1, ?_, fun i hi => ?_⟩, ⟨(f _ _ (by decide) (by decide)).trans h.2.2.2.1.1, ?_, (f _ _ (by decide) (by decide)).trans h.2.2.2.1.2.2⟩, (f _ _ (by decide) (by decide)).trans h.2.2.2.2.1, (f _ _ (by decide) (by decide)).trans h.2.2.2.2.2⟩, FW.refl.tk g.2 g.1.2⟩
  · rw [f _ _ (by decide) (by unfold K_X12_token; simp)]
    exact h.2.2.1.2.1
  · rw [f _ _ (by decide) (by unfold K_X12_token; simp), f _ _ (by decide) (by unfold K_X12_token; simp)]
    exact h.2.2.1.2.2 i hi
  · refine VS_congr (fun j _ _ => f _ _ (by decide) (by unfold K_X12_token; simp)) h.2.2.2.1.2.1
theorem addRaw {a v : Int32} {len : Nat} (hw : w < 3) (h19 : ρ.1 1000 19 = nI w) (h5 : ρ.1 1005 w = nI len) (hl : len < 320) : X12_add a v ρ = some (sI (sI (sI ρ 1003 (320 * w + len) a) 1004 (320 * w + len) v) 1005 w (nI (len + 1))) := by
  unfold X12_add
  have b3 := ib_t (n := w) (k := 3) hw (by omega)
  have b9 := ib_t (n := 320 * w + len) (k := 960) (by omega) (by omega)
  have e : 320 * nI w + ρ.1 1005 w = nI (320 * w + len) := by rw [h5, show (320 : Int32) = nI 320 from rfl, ni_mul, ni_add]
  have e' : ∀ σ1 : Mem, σ1.1 1000 19 = nI w → σ1.1 1005 w = nI len → (320 * σ1.1 1000 19 + σ1.1 1005 (σ1.1 1000 19).toNatClampNeg) = nI (320 * w + len) := fun σ1 g1 g2 => by
    rw [g1, ni_cl (by omega), g2, show (320 : Int32) = nI 320 from rfl, ni_mul, ni_add]
  rw [e' ρ h19 h5, h19, if_pos b3, if_pos b9, bv_eq, ni_cl (show 320 * w + len < 2147483648 by omega)]
  have g1 : (sI ρ 1003 (320 * w + len) a).1 1000 19 = nI w := by rw [sI_n (by decide)]; exact h19
  have g2 : (sI ρ 1003 (320 * w + len) a).1 1005 w = nI len := by rw [sI_n (by decide)]; exact h5
  rw [e' _ g1 g2, g1, if_pos b3, if_pos b9, bv_eq, ni_cl (show 320 * w + len < 2147483648 by omega), bv_eq, sI_n (by decide), g1, if_pos b3, if_pos b3, bv_eq, ni_cl (show w < 2147483648 by omega), sI_n (by decide), g2, ni_succ]
theorem rAdd_ok {a v : Int32} (hw : w < 3) (h : RF b k w x out stk own all ρ) (hl : out.length < 320) : Ok (X12_add a v ρ) (fun ρ' => RF b k w x (out ++ [(a, v)]) stk own all ρ' ∧ FW w ρ ρ') := by
  obtain ⟨h1, h2, h3, h4, h5, h6⟩ := h
  rw [addRaw hw h3.1 h3.2.1 hl]
  refine ok_some ⟨⟨((h1.o (by decide) (by decide)).o (by decide) (by decide)).o (by decide) (by decide), ?_, ⟨?_, ?_, ?_⟩, ⟨?_, ?_, ?_⟩, ?_, ?_⟩, FW.refl.ad (by omega) (by omega)⟩
  · rw [sI_n (by decide), sI_n (by decide), sI_n (by decide)]
    exact h2
  · rw [sI_n (by decide), sI_n (by decide), sI_n (by decide)]
    exact h3.1
  · rw [sI_e, List.length_append, List.length_singleton]
  · refine all_snoc (P := fun i (c : Int32 × Int32) => _ = c.1 ∧ _ = c.2) (fun i hi => ?_) ?_
    · rw [sI_n (by decide), sI_n (by decide), sI_k (by omega), sI_n (by decide), sI_k (by omega), sI_n (by decide)]
      exact h3.2.2 i hi
    · rw [sI_n (by decide), sI_n (by decide), sI_e, sI_n (by decide), sI_e]
      exact ⟨rfl, rfl⟩
  · rw [sI_n (by decide), sI_n (by decide), sI_n (by decide)]
    exact h4.1
  · refine VS_congr (fun j _ _ => ?_) h4.2.1
    rw [sI_n (by decide), sI_n (by decide), sI_n (by decide)]
  · rw [sI_n (by decide), sI_n (by decide), sI_n (by decide)]
    exact h4.2.2
  · rw [sI_n (by decide), sI_n (by decide), sI_n (by decide)]
    exact h5
  · rw [sI_n (by decide), sI_n (by decide), sI_n (by decide)]
    exact h6
/-- a push on the stack of what is open -/
theorem rPush {s : Int32} (h : RF b k w x out stk own all ρ) : RF b k w x out stk own all (sI ρ 1009 stk.length s) ∧ (sI ρ 1009 stk.length s).1 1009 stk.length = s := by
  obtain ⟨h1, h2, h3, h4, h5, h6⟩ := h
  refine ⟨⟨h1.o (by decide) (by decide), ?_, ⟨?_, ?_, fun i hi => ?_⟩, ⟨?_, ?_, ?_⟩, ?_, ?_⟩, sI_e _ _ _ _⟩
  · rw [sI_n (by decide)]
    exact h2
  · rw [sI_n (by decide)]
    exact h3.1
  · rw [sI_n (by decide)]
    exact h3.2.1
  · rw [sI_n (by decide), sI_n (by decide)]
    exact h3.2.2 i hi
  · rw [sI_n (by decide)]
    exact h4.1
  · refine VS_congr (fun j _ hj => ?_) h4.2.1
    rw [sI_k (by omega)]
  · rw [sI_n (by decide)]
    exact h4.2.2
  · rw [sI_n (by decide)]
    exact h5
  · rw [sI_n (by decide)]
    exact h6
/-- another place of 1000 set, that is not looked at here -/
theorem RF.set20 {stk' : List Int32} {v : Int32} (h : RF b k w x out stk own all ρ) (hv : v = nI stk'.length) (hs : VS 0 stk' (ρ.1 1009)) (hd : dpS stk' = dpS stk) : RF b k w x out stk' own all (sI ρ 1000 20 v) := by
  obtain ⟨h1, h2, h3, h4, h5, h6⟩ := h
  refine ⟨h1.k (by decide), ?_, ⟨?_, ?_, fun i hi => ?_⟩, ⟨?_, ?_, ?_⟩, ?_, ?_⟩
  · rw [sI_k (by decide)]
    exact h2
  · rw [sI_k (by decide)]
    exact h3.1
  · rw [sI_n (by decide)]
    exact h3.2.1
  · rw [sI_n (by decide), sI_n (by decide)]
    exact h3.2.2 i hi
  · rw [sI_e]
    exact hv
  · refine VS_congr (fun j _ hj => ?_) hs
    rw [sI_n (by decide)]
  · rw [sI_k (by decide), hd]
    exact h4.2.2
  · rw [sI_k (by decide)]
    exact h5
  · rw [sI_k (by decide)]
    exact h6
theorem RF.set2024 {stk' : List Int32} {v v' : Int32} (h : RF b k w x out stk own all ρ) (hv : v = nI stk'.length) (hs : VS 0 stk' (ρ.1 1009)) (hd : v' = nI (dpS stk')) : RF b k w x out stk' own all (sI (sI ρ 1000 20 v) 1000 24 v') := by
  obtain ⟨h1, h2, h3, h4, h5, h6⟩ := h
  refine ⟨(h1.k (by decide)).k (by decide), ?_, ⟨?_, ?_, fun i hi => ?_⟩, ⟨?_, ?_, ?_⟩, ?_, ?_⟩
  · rw [sI_k (by decide), sI_k (by decide)]
    exact h2
  · rw [sI_k (by decide), sI_k (by decide)]
    exact h3.1
  · rw [sI_n (by decide), sI_n (by decide)]
    exact h3.2.1
  · rw [sI_n (by decide), sI_n (by decide), sI_n (by decide), sI_n (by decide)]
    exact h3.2.2 i hi
  · rw [sI_k (by decide), sI_e]
    exact hv
  · refine VS_congr (fun j _ hj => ?_) hs
    rw [sI_n (by decide), sI_n (by decide)]
  · rw [sI_e]
    exact hd
  · rw [sI_k (by decide), sI_k (by decide)]
    exact h5
  · rw [sI_k (by decide), sI_k (by decide)]
    exact h6
theorem RF.count {v v' : Int32} {own' all' : Nat} (h : RF b k w x out stk own all ρ) (hv : v = nI all') (hv' : v' = nI own') : RF b k w x out stk own' all' (sI (sI ρ 1000 21 v) 1000 23 v') := by
  obtain ⟨h1, h2, h3, h4, h5, h6⟩ := h
  refine ⟨(h1.k (by decide)).k (by decide), ?_, ⟨?_, ?_, fun i hi => ?_⟩, ⟨?_, ?_, ?_⟩, ?_, ?_⟩
  · rw [sI_k (by decide), sI_k (by decide)]
    exact h2
  · rw [sI_k (by decide), sI_k (by decide)]
    exact h3.1
  · rw [sI_n (by decide), sI_n (by decide)]
    exact h3.2.1
  · rw [sI_n (by decide), sI_n (by decide), sI_n (by decide), sI_n (by decide)]
    exact h3.2.2 i hi
  · rw [sI_k (by decide), sI_k (by decide)]
    exact h4.1
  · refine VS_congr (fun j _ hj => ?_) h4.2.1
    rw [sI_n (by decide), sI_n (by decide)]
  · rw [sI_k (by decide), sI_k (by decide)]
    exact h4.2.2
  · rw [sI_k (by decide), sI_e]
    exact hv
  · rw [sI_e]
    exact hv'
end RFs
/-! closing -/
theorem sI_comm {ρ : Mem} {a o j l : Nat} {v z : Int32} (h : a ≠ o) : sI (sI ρ a j v) o l z = sI (sI ρ o l z) a j v := by
  refine Prod.ext ?_ rfl
  funext c d
  rw [sI_r, sI_r, sI_r, sI_r]
  by_cases e : c = o ∧ d = l
  · rw [if_pos e, if_pos e, if_neg (fun g => h (g.1.symm.trans e.1))]
  · rw [if_neg e, if_neg e]
def flush (P : List Int32) : Pg := P.map (fun s => if s = 21 then ((2 : Int32), (0 : Int32)) else (3, s))
def hiT (L : Nat) (P : List Int32) : Prop := ∀ s, s ∈ P → s ≠ 20 ∧ L ≤ tgN s
def lowT (L : Nat) : List Int32 → Prop
  | [] => True
  | s :: _ => s = 20 ∨ tgN s < L
theorem close_ok {b : Nat → Nat} {k w own all L : Nat} {x : Tk} {O : List Int32} (hw : w < 3) (hL : L ≤ 7) (hO : lowT L O) : ∀ (P : List Int32) (M : Pg) (n : Nat) (ρ : Mem), RF b k w x M (P ++ O) own all ρ → hiT L P → M.length + P.length < 320 → (P ++ O).length ≤ 160 → P.length < n → Ok (X12_close_0 n (nI L) ρ) (fun ρ' => RF b k w x (M ++ flush P) O own all ρ' ∧ FW w ρ ρ')
  | [], M, n, ρ, h, hP, hl, hs, hn => by
    obtain ⟨n, rfl⟩ : ∃ j, n = j + 1 := ⟨n - 1, by omega⟩
    have he : Ok (some ρ) (fun ρ' => RF b k w x (M ++ flush []) O own all ρ' ∧ FW w ρ ρ') := ok_some ⟨by rw [show M ++ flush [] = M from List.append_nil _]; exact h, FW.refl⟩
    rw [X12_close_0]
    rw [List.nil_append] at h hs
    cases O with
    | nil => exact ok_pos (by rw [h.2.2.2.1.1]; exact Int32.le_refl _) he
    | cons s r =>
      rw [List.length_cons] at hs
      have e20 : ρ.1 1000 20 = nI (r.length + 1) := h.2.2.2.1.1
      have e9 : ρ.1 1009 r.length = s := by
        have := h.2.2.2.1.2.1.1
        rw [Nat.zero_add] at this
        exact this
      rw [e20, ni_pred, ni_cl (by omega), e9]
      refine ok_neg (by rw [show (0 : Int32) = nI 0 from rfl, ni_le (by omega) (by omega)]; omega) (ok_pos (ib_t (by omega) (by omega)) (ok_ite (fun _ => he) (fun z => ok_pos (ib_t (by omega) (by omega)) (ok_bindE (tight_ok s ρ) (ok_pos ?_ he)))))
      have ht : tgN s < L := hO.elim (fun e => absurd e z) id
      have := tgN_le s
      show nI (tgN s) < nI L
      rw [ni_lt (by omega) (by omega)]
      exact ht
  | s :: P, M, n, ρ, h, hP, hl, hs, hn => by
    obtain ⟨n, rfl⟩ : ∃ j, n = j + 1 := ⟨n - 1, by omega⟩
    rw [List.length_cons] at hl hn
    rw [List.cons_append] at h hs
    rw [List.length_cons] at hs
    obtain ⟨hs20, hsL⟩ := hP s (.head _)
    have e20 : ρ.1 1000 20 = nI ((P ++ O).length + 1) := h.2.2.2.1.1
    have e9 : ρ.1 1009 (P ++ O).length = s := by
      have := h.2.2.2.1.2.1.1
      rw [Nat.zero_add] at this
      exact this
    have hV : VS 0 (P ++ O) (ρ.1 1009) := h.2.2.2.1.2.1.2
    have e24 : ρ.1 1000 24 = nI (dpS (s :: (P ++ O))) := h.2.2.2.1.2.2
    have htg := tgN_le s
    rw [X12_close_0, e20, ni_pred, ni_cl (by omega), e9]
    refine ok_neg (by rw [show (0 : Int32) = nI 0 from rfl, ni_le (by omega) (by omega)]; omega) (ok_pos (ib_t (by omega) (by omega)) (ok_neg hs20 (ok_pos (ib_t (by omega) (by omega)) (ok_bindE (tight_ok s ρ) (ok_neg ?_ (ok_bv ?_))))))
    · show ¬ nI (tgN s) < nI L
      rw [ni_lt (by omega) (by omega)]
      omega
    show Ok (if ib ((sI ρ 1000 20 (ρ.1 1000 20 - 1)).1 1000 20) 160 = true then _ else _) _
    rw [e20, ni_pred, sI_e, ni_cl (by omega), sI_n (by decide), e9]
    refine ok_pos (ib_t (by omega) (by omega)) ?_
    have fin : ∀ ρ1, RF b k w x (M ++ [if s = 21 then ((2 : Int32), (0 : Int32)) else (3, s)]) (P ++ O) own all ρ1 → FW w ρ ρ1 → Ok (X12_close_0 n (nI L) ρ1) (fun ρ' => RF b k w x (M ++ flush (s :: P)) O own all ρ' ∧ FW w ρ ρ') := fun ρ1 g1 g2 => by
      refine ok_mono (close_ok hw hL hO P _ n ρ1 g1 (fun t ht => hP t (.tail _ ht)) (by rw [List.length_append, List.length_singleton]; omega) (by omega) (by omega)) (fun ρ' g => ⟨?_, g2.trans g.2⟩)
      have e : M ++ flush (s :: P) = M ++ [if s = 21 then ((2 : Int32), (0 : Int32)) else (3, s)] ++ flush P := by
        rw [List.append_assoc]
        rfl
      rw [e]
      exact g.1
    refine ok_ite (fun z => ?_) (fun z => ok_pos (ib_t (by omega) (by omega)) ?_)
    · rw [if_pos z] at fin
      have hd : dpS (s :: (P ++ O)) = dpS (P ++ O) + 1 := by
        show (if s = 20 ∨ s = 21 then 1 else 0) + dpS (P ++ O) = _
        rw [if_pos (.inr z)]
        omega
      refine ok_bindE (addRaw (len := M.length) hw (by rw [sI_k (by decide)]; exact h.2.2.1.1) (by rw [sI_n (by decide)]; exact h.2.2.1.2.1) (by omega)) (ok_bv ?_)
      rw [sI_n (by decide), sI_n (by decide), sI_n (by decide), sI_k (by decide), e24, hd, ni_pred]
      obtain ⟨ρ1, q1, q2⟩ := rAdd_ok (a := 2) (v := 0) hw h (by omega)
      rw [addRaw hw h.2.2.1.1 h.2.2.1.2.1 (by omega)] at q1
      have q1 := (Option.some.inj q1).symm
      have hc : sI (sI (sI (sI (sI ρ 1000 20 (nI (P ++ O).length)) 1003 (320 * w + M.length) 2) 1004 (320 * w + M.length) 0) 1005 w (nI (M.length + 1))) 1000 24 (nI (dpS (P ++ O))) = sI (sI (sI (sI (sI ρ 1003 (320 * w + M.length) 2) 1004 (320 * w + M.length) 0) 1005 w (nI (M.length + 1))) 1000 20 (nI (P ++ O).length)) 1000 24 (nI (dpS (P ++ O))) := by
        rw [sI_comm (a := 1000) (o := 1003) (by decide), sI_comm (a := 1000) (o := 1004) (by decide), sI_comm (a := 1000) (o := 1005) (by decide)]
      rw [hc, ← q1]
      refine fin _ (q2.1.set2024 rfl ?_ rfl) ((q2.2.k (by decide)).k (by decide))
      rw [q1]
      refine VS_congr (fun j _ _ => ?_) hV
      rw [sI_n (by decide), sI_n (by decide), sI_n (by decide)]
    · rw [if_neg z] at fin
      have hd : dpS (P ++ O) = dpS (s :: (P ++ O)) := by
        show _ = (if s = 20 ∨ s = 21 then 1 else 0) + dpS (P ++ O)
        rw [if_neg (fun e => e.elim hs20 z)]
        omega
      have g : RF b k w x M (P ++ O) own all (sI ρ 1000 20 (nI (P ++ O).length)) := h.set20 rfl hV hd
      exact ok_bind (rAdd_ok hw g (by omega)) (fun ρ1 q => fin ρ1 q.1 ((FW.refl.k (by decide)).trans q.2))
