/-! plan: the middle -/
def aimS (g : St) (x : Nat) (a : Int32) : St := fun r j => if r = 2 ∧ j = x then a else g r j
def plS (n x : Nat) (s : St) : St := fun r j => if r = 2 ∧ j < n then -1 else if r = 3 ∧ j = x then nI x else s r j
def payT (T : Tn) (x c : Nat) : Nat → St → Nat × St
  | 0, g => (0, g)
  | f + 1, g => if g 5 (6 * x + c) = 0 then (0, g) else ((payT T x c f (hourF T g)).1 + 1, (payT T x c f (hourF T g)).2)
/-- creditors of x, from j on, among the next r -/
def crs (x : Nat) (g : St) : Nat → Nat → List Nat
  | 0, _ => []
  | r + 1, j => if g 5 (6 * x + j) = 0 then crs x g r (j + 1) else j :: crs x g r (j + 1)
def ordT (T : Tn) (x : Nat) : List Nat → St → Nat → Nat
  | [], _, h => h
  | c :: r, g, h => ordT T x r (payT T x c (301 - h) (aimS g x (nI c))).2 (h + (payT T x c (301 - h) (aimS g x (nI c))).1)
abbrev Pa : Type := Nat × List Nat
def stepO (T : Tn) (x : Nat) (g : St) (h : Nat) (pre : List Nat) (a : Pa) (o : List Nat) : Pa := if ordT T x o g h < a.1 then (ordT T x o g h, pre ++ o) else a
def kidsP (P : List Nat → List (List Nat)) : List Nat → List Nat → List (List Nat)
  | _, [] => []
  | pre, c :: r => (P (pre ++ r)).map (fun o => c :: o) ++ kidsP P (pre ++ [c]) r
def perms : Nat → List Nat → List (List Nat)
  | 0, _ => [[]]
  | k + 1, cs => kidsP (perms k) [] cs
/-- a state in which x alone goes, for x -/
def PG (T : Tn) (x : Nat) (g : St) : Prop := okS T g ∧ (∀ p, p < tN T → p ≠ x → g 2 p = -1) ∧ g 3 x = nI x
theorem ordT_ge (T : Tn) (x : Nat) : ∀ (o : List Nat) (g : St) (h : Nat), h ≤ ordT T x o g h
  | [], _, _ => Nat.le_refl _
  | c :: r, g, h => Nat.le_trans (Nat.le_add_right _ _) (ordT_ge T x r _ _)
theorem payT_le (T : Tn) (x c : Nat) : ∀ (f : Nat) (g : St), (payT T x c f g).1 ≤ f
  | 0, _ => Nat.le_refl _
  | f + 1, g => by
    unfold payT
    split
    · exact Nat.zero_le _
    · exact Nat.succ_le_succ (payT_le T x c f (hourF T g))
theorem payT_z (T : Tn) (x c : Nat) : ∀ (f : Nat) (g : St), (payT T x c f g).1 < f → (payT T x c f g).2 5 (6 * x + c) = 0
  | 0, _, h => by omega
  | f + 1, g, h => by
    unfold payT at h ⊢
    split at h
    · rename_i z
      rw [if_pos z]
      exact z
    · rename_i z
      rw [if_neg z]
      exact payT_z T x c f (hourF T g) (by simp only [] at h; omega)
theorem ordT_le (T : Tn) (x : Nat) : ∀ (o : List Nat) (g : St) (h : Nat), h ≤ 301 → ordT T x o g h ≤ 301
  | [], _, _, hh => hh
  | c :: r, g, h, hh => by
    have := payT_le T x c (301 - h) (aimS g x (nI c))
    exact ordT_le T x r _ _ (by omega)
theorem intF_nz {T : Tn} {d : Int32} {v : Nat} (hv : v ≤ 9999) (h : nI v ≠ 0) : intF T d (nI v) ≠ 0 := by
  have h1 : 1 ≤ v := by
    rcases Nat.eq_zero_or_pos v with g | g
    · exact absurd (by rw [g]; rfl) h
    · exact g
  have key : ∀ m, ∃ u, 1 ≤ u ∧ u ≤ 9999 ∧ moreF m (nI v) = nI u := fun m => by
    unfold moreF
    by_cases x : m < 0
    · rw [if_pos x]
      exact ⟨v, h1, hv, rfl⟩
    · rw [if_neg x]
      obtain ⟨u, hu, rfl⟩ := ni_of (Int32.not_lt.mp x)
      rw [show (9999 : Int32) = nI 9999 from rfl, ni_sub hv]
      by_cases y : nI (9999 - v) < nI u
      · rw [if_pos y]
        exact ⟨9999, by omega, by omega, rfl⟩
      · rw [if_neg y, ni_add]
        rw [ni_lt (by omega) hu] at y
        exact ⟨v + u, by omega, by omega, rfl⟩
  unfold intF
  split
  · exact h
  · rw [if_neg h]
    obtain ⟨u, g1, g2, g3⟩ := key (ev _ (fun k => if k = 0 then nI v else if k = 1 then d else 0))
    rw [g3]
    intro z
    rw [ni_z (by omega)] at z
    omega
theorem PG_pays {T : Tn} {x c k : Nat} {g : St} (hT : okT T) (h : PG T x g) (hx : x < tN T) (ha : g 2 x = nI c) (hc : c < tN T) (hk : k ≠ 6 * x + c) : ∀ i, i ≤ tN T → (paysF T g i).2 k = g 5 k
  | 0, _ => rfl
  | i + 1, hi => by
    have hn := hT.1
    show (payF T g i (paysF T g i)).2.2 k = _
    rw [← PG_pays hT h hx ha hc hk i (by omega)]
    by_cases z : i = x
    · subst z
      apply payF_ne
      unfold pix
      rw [h.2.2, ha, ni_cell]
      show ix (nI (6 * i + c)) ≠ k
      unfold ix
      rw [ni_cl (by omega)]
      exact fun e => hk e.symm
    · have hw : wts T g i = false := by
        cases e : wts T g i with
        | false => rfl
        | true => exact absurd (h.2.1 i (by omega) z) (wts_no e)
      unfold payF
      rw [if_pos (.inl hw)]
theorem PG_hour {T : Tn} {x c : Nat} {g : St} (hT : okT T) (h : PG T x g) (hx : x < tN T) (ha : g 2 x = nI c) (hc : c < tN T) (hp : (g 0 7).toInt < 3000) : PG T x (hourF T g) ∧ hourF T g 2 x = nI c ∧ ∀ d, d < tN T → d ≠ c → (hourF T g 5 (6 * x + d) = 0 ↔ g 5 (6 * x + d) = 0) := by
  have hn := hT.1
  refine ⟨⟨okS_hour hT h.1 hp, by rw [hourF_aim]; exact h.2.1, by rw [hourF_stand]; exact h.2.2⟩, by rw [hourF_aim]; exact ha, fun d hd hdc => ⟨fun z => ?_, fun z => hourF_z z⟩⟩
  have e := PG_pays (k := 6 * x + d) hT h hx ha hc (by omega) (tN T) (Nat.le_refl _)
  rw [hourF_debt] at z
  by_cases w : g 0 6 + 1 = nI (tD T)
  · rw [if_pos w] at z
    have z : intF T (g 0 5) ((paysF T g (tN T)).2 (6 * x + d)) = 0 := z
    rw [e] at z
    obtain ⟨⟨v, hv, ev⟩, -⟩ := okS_D h.1 x d (by omega) (by omega)
    rw [ev] at z ⊢
    cases Decidable.em (nI v = 0) with
    | inl q => exact q
    | inr q => exact absurd z (intF_nz hv q)
  · rw [if_neg w, e] at z
    exact z
theorem PG_payT {T : Tn} {x c : Nat} (hT : okT T) (hx : x < tN T) (hc : c < tN T) : ∀ (f : Nat) (g : St), PG T x g → g 2 x = nI c → (g 0 7).toInt + f ≤ 3000 →
    PG T x (payT T x c f g).2 ∧ ((payT T x c f g).2 0 7).toInt = (g 0 7).toInt + (payT T x c f g).1 ∧ ∀ d, d < tN T → d ≠ c → ((payT T x c f g).2 5 (6 * x + d) = 0 ↔ g 5 (6 * x + d) = 0)
  | 0, g, h, _, _ => ⟨h, by show _ = _ + ((0 : Nat) : Int); simp; rfl, fun _ _ _ => Iff.rfl⟩
  | f + 1, g, h, ha, hp => by
    unfold payT
    by_cases z : g 5 (6 * x + c) = 0
    · rw [if_pos z]
      exact ⟨h, by simp, fun _ _ _ => Iff.rfl⟩
    · rw [if_neg z]
      obtain ⟨a1, a2, a3⟩ := PG_hour hT h hx ha hc (by omega)
      have hpi := hourF_pastI h.1
      obtain ⟨b1, b2, b3⟩ := PG_payT hT hx hc f (hourF T g) a1 a2 (by omega)
      refine ⟨b1, ?_, fun d hd hdc => (b3 d hd hdc).trans (a3 d hd hdc)⟩
      show ((payT T x c f (hourF T g)).2 0 7).toInt = (g 0 7).toInt + (((payT T x c f (hourF T g)).1 + 1 : Nat) : Int)
      rw [b2, hpi]
      omega
theorem PG_aim {T : Tn} {x c : Nat} {g : St} (h : PG T x g) (hx : x < tN T) (hc : c < tN T) (hcx : c ≠ x) : PG T x (aimS g x (nI c)) ∧ aimS g x (nI c) 2 x = nI c := by
  have e : ∀ r j, r ≠ 2 → aimS g x (nI c) r j = g r j := fun r j hr => if_neg (fun z => hr z.1)
  refine ⟨⟨⟨fun p hp => ⟨?_, ?_, ?_⟩, ?_, ?_, ?_⟩, fun p hp hpx => ?_, ?_⟩, if_pos ⟨rfl, rfl⟩⟩
  · by_cases z : p = x
    · right
      exact ⟨c, hc, by omega, if_pos ⟨rfl, z⟩⟩
    · rw [show aimS g x (nI c) 2 p = g 2 p from if_neg (fun w => z w.2)]
      exact (h.1.1 p hp).1
  · rw [e 3 p (by decide)]
    exact (h.1.1 p hp).2.1
  · rw [e 4 p (by decide), e 0 7 (by decide)]
    exact (h.1.1 p hp).2.2
  · intro i j hi hj
    rw [e 5 _ (by decide)]
    exact h.1.2.1 i j hi hj
  · rw [e 0 6 (by decide)]
    exact h.1.2.2.1
  · rw [e 0 7 (by decide)]
    exact h.1.2.2.2
  · rw [show aimS g x (nI c) 2 p = g 2 p from if_neg (fun w => hpx w.2)]
    exact h.2.1 p hp hpx
  · rw [e 3 x (by decide)]
    exact h.2.2
theorem crs_s (x : Nat) (g : St) (r j : Nat) : crs x g (r + 1) j = if g 5 (6 * x + j) = 0 then crs x g r (j + 1) else j :: crs x g r (j + 1) := rfl
theorem crs_congr {x : Nat} {g g' : St} : ∀ (r j : Nat), (∀ c, j ≤ c → c < j + r → (g' 5 (6 * x + c) = 0 ↔ g 5 (6 * x + c) = 0)) → crs x g' r j = crs x g r j
  | 0, _, _ => rfl
  | r + 1, j, h => by
    unfold crs
    have hj := h j (Nat.le_refl _) (by omega)
    rw [crs_congr r (j + 1) (fun c h1 h2 => h c (by omega) (by omega))]
    by_cases z : g 5 (6 * x + j) = 0
    · rw [if_pos z, if_pos (hj.mpr z)]
    · rw [if_neg z, if_neg (fun w => z (hj.mp w))]
theorem crs_app {x : Nat} {g : St} (b : Nat) : ∀ (a j : Nat), crs x g (a + b) j = crs x g a j ++ crs x g b (j + a)
  | 0, j => by rw [Nat.zero_add]; rfl
  | a + 1, j => by
    rw [show a + 1 + b = (a + b) + 1 by omega, crs_s, crs_s, crs_app b a (j + 1), show j + 1 + a = j + (a + 1) by omega]
    split <;> rfl
theorem crs_cut {x c n b : Nat} {g g' : St} (hn : n = c + 1 + b) (hz : g' 5 (6 * x + c) = 0) (h : ∀ d, d < n → d ≠ c → (g' 5 (6 * x + d) = 0 ↔ g 5 (6 * x + d) = 0)) : crs x g' n 0 = crs x g c 0 ++ crs x g b (c + 1) := by
  rw [hn, show c + 1 + b = c + (b + 1) by omega, crs_app (b + 1) c 0, Nat.zero_add, crs_congr c 0 (fun d _ h2 => h d (by omega) (by omega))]
  congr 1
  show (if g' 5 (6 * x + c) = 0 then crs x g' b (c + 1) else _) = _
  rw [if_pos hz]
  exact crs_congr b (c + 1) (fun d h1 h2 => h d (by omega) (by omega))
theorem block_no {T : Tn} {x c h : Nat} {g : St} {pre : List Nat} {a : Pa} (hb : a.1 ≤ h + (payT T x c (301 - h) (aimS g x (nI c))).1) : ∀ P : List (List Nat), (P.map (fun o => c :: o)).foldl (stepO T x g h pre) a = a
  | [] => rfl
  | o :: r => by
    rw [List.map_cons, List.foldl_cons]
    have : stepO T x g h pre a (c :: o) = a := by
      unfold stepO
      rw [if_neg]
      have := ordT_ge T x o (payT T x c (301 - h) (aimS g x (nI c))).2 (h + (payT T x c (301 - h) (aimS g x (nI c))).1)
      show ¬ ordT T x o _ _ < a.1
      omega
    rw [this]
    exact block_no hb r
theorem block_go {T : Tn} {x c h : Nat} {g : St} {pre : List Nat} : ∀ (P : List (List Nat)) (a : Pa), (P.map (fun o => c :: o)).foldl (stepO T x g h pre) a = P.foldl (stepO T x (payT T x c (301 - h) (aimS g x (nI c))).2 (h + (payT T x c (301 - h) (aimS g x (nI c))).1) (pre ++ [c])) a
  | [], _ => rfl
  | o :: r, a => by
    rw [List.map_cons, List.foldl_cons, List.foldl_cons, block_go r]
    congr 1
    unfold stepO
    rw [List.append_assoc]
    rfl
