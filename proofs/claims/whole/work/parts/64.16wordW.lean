/-! a number of the law told otherwise: who walks and waits stays as it was; the class's trial hours -/
section Walk
variable {T T' : Tn} {s s' : St}
theorem rsts_congr (hR : tR T' = tR T) (hD : tD T' = tD T) (h : Int32) (p : Nat) : rsts T' h p = rsts T h p := by
  unfold rsts
  rw [hR, hD]
theorem mts_congr (hR : tR T' = tR T) (hD : tD T' = tD T) (e1 : s' 1 = s 1) (e2 : s' 2 = s 2) (e6 : s' 0 6 = s 0 6) (p : Nat) : mts T' s' p = mts T s p := by
  unfold mts
  rw [e1, e2, e6, rsts_congr hR hD, rsts_congr hR hD]
theorem goalF_congr (hR : tR T' = tR T) (hD : tD T' = tD T) (e2 : s' 2 = s 2) (e6 : s' 0 6 = s 0 6) (p : Nat) : goalF T' s' p = goalF T s p := by
  unfold goalF
  rw [e2, e6, rsts_congr hR hD, hR]
theorem plc_congr (hR : tR T' = tR T) (hD : tD T' = tD T) (e1 : s' 1 = s 1) (e2 : s' 2 = s 2) (e6 : s' 0 6 = s 0 6) : plc T' s' = plc T s := by
  funext p
  unfold plc
  rw [mts_congr hR hD e1 e2 e6, goalF_congr hR hD e2 e6, e1]
theorem wts_congr (hR : tR T' = tR T) (hD : tD T' = tD T) (e1 : s' 1 = s 1) (e2 : s' 2 = s 2) (e6 : s' 0 6 = s 0 6) (p : Nat) : wts T' s' p = wts T s p := by
  unfold wts opn
  rw [mts_congr hR hD e1 e2 e6, goalF_congr hR hD e2 e6, rsts_congr hR hD, e1, e2, e6, hR]
theorem std_congr (hR : tR T' = tR T) (hD : tD T' = tD T) (e1 : s' 1 = s 1) (e2 : s' 2 = s 2) (e6 : s' 0 6 = s 0 6) (p : Nat) : std T' s' p = std T s p := by
  have : ∀ a, atD T' s' a = atD T s a := fun a => by
    funext r
    unfold atD
    rw [wts_congr hR hD e1 e2 e6, mts_congr hR hD e1 e2 e6, e2]
  unfold std crw
  rw [this, mts_congr hR hD e1 e2 e6, e2, hR]
end Walk
theorem hours_walk (T : Tn) (s : St) (k : Nat) (v : Int32) : ∀ i, hoursF (setL T k v) i s 1 = hoursF T i s 1 ∧ hoursF (setL T k v) i s 0 5 = hoursF T i s 0 5 ∧ hoursF (setL T k v) i s 0 6 = hoursF T i s 0 6
  | 0 => ⟨rfl, rfl, rfl⟩
  | i + 1 => by
    obtain ⟨h1, h5, h6⟩ := hours_walk T s k v i
    have h2 : hoursF (setL T k v) i s 2 = hoursF T i s 2 := by rw [hoursF_aim, hoursF_aim]
    show hourF (setL T k v) (hoursF (setL T k v) i s) 1 = hourF T (hoursF T i s) 1 ∧ hourF (setL T k v) (hoursF (setL T k v) i s) 0 5 = hourF T (hoursF T i s) 0 5 ∧ hourF (setL T k v) (hoursF (setL T k v) i s) 0 6 = hourF T (hoursF T i s) 0 6
    rw [hourF_place, hourF_place, hourF_date, hourF_date, hourF_hour, hourF_hour, h5, h6, plc_congr (T := T) (T' := setL T k v) rfl rfl h1 h2 h6]
    exact ⟨rfl, rfl, rfl⟩
theorem Roll_set {T : Tn} {s : St} {k i : Nat} {v x : Int32} {pr : Pg} (e : tP T 0 = some pr) (hT : okT T) (h0 : (pr.getD k (0, 0)).1 = 0) (h : RollOk T (hoursF T i s) x) : RollOk (setL T k v) (hoursF (setL T k v) i s) x := by
  obtain ⟨h1, h5, h6⟩ := hours_walk T s k v i
  have h2 : hoursF (setL T k v) i s 2 = hoursF T i s 2 := by rw [hoursF_aim, hoursF_aim]
  have hw := wts_congr (T := T) (T' := setL T k v) rfl rfl h1 h2 h6
  refine ⟨fun p hp => ?_, fun q hq ha hp => ?_⟩
  · rw [hw, mts_congr (T := T) (T' := setL T k v) rfl rfl h1 h2 h6, std_congr (T := T) (T' := setL T k v) rfl rfl h1 h2 h6]
    exact h.1 p hp
  · rw [setL_tP e] at hq
    cases hq
    rw [(set_ok pr 0 k v h0 (hT.2.2.2.2 0 pr e).1).2.2] at ha
    have := h.2 pr e ha (by
      obtain ⟨p, q1, q2⟩ := hp
      exact ⟨p, q1, by rw [← hw]; exact q2⟩)
    rw [this, h5, h6]
    unfold wetF
    rw [setL_tP' (by decide)]
/-! the class's start: with all debts, or with one alone -/
def dl (c : Nat) (x : Int32) : Nat → Int32 := fun k => if k = c then x else 0
def cdS (b : Bool) (c : Nat) (s h : St) : (Nat → Int32) × (Nat → Int32) := if b then (h 4, h 5) else (s 4, dl c (h 5 c))
/-- no one pays at c with another's coins -/
def noC (T : Tn) (s : St) (c : Nat) : Prop := ∀ p, p < tN T → s 3 p = nI p ∨ tR T 6 p ≤ 0 ∨ s 2 p = -1 ∨ pix s p ≠ c
theorem wts_no {T : Tn} {s : St} {p : Nat} (h : wts T s p = true) : s 2 p ≠ -1 := by
  intro e
  have hm : mts T s p = false := by unfold mts; rw [e]; rfl
  unfold wts at h
  rw [hm, e] at h
  simp at h
theorem payF_ne {T : Tn} {s : St} {p c : Nat} {cd : (Nat → Int32) × (Nat → Int32)} (h : pix s p ≠ c) : (payF T s p cd).2.2 c = cd.2 c := by
  have h' : c ≠ pix s p := fun e => h e.symm
  unfold payF
  split
  · rfl
  · split
    · show upd _ _ _ c = _
      unfold upd
      rw [if_neg h']
    · split
      · rfl
      · show upd _ _ _ c = _
        unfold upd
        rw [if_neg h']
theorem payF_z {T : Tn} {s : St} {p c : Nat} {cd : (Nat → Int32) × (Nat → Int32)} (h : cd.2 c = 0) : (payF T s p cd).2.2 c = 0 := by
  by_cases e : pix s p = c
  · unfold payF
    rw [if_pos (.inr (.inl (by rw [e]; exact h)))]
    exact h
  · rw [payF_ne e]
    exact h
theorem intF_z (T : Tn) (d : Int32) : intF T d 0 = 0 := by
  unfold intF
  split
  · rfl
  · exact if_pos rfl
theorem paysF_z {T : Tn} {s : St} {c : Nat} (h : s 5 c = 0) : ∀ i, (paysF T s i).2 c = 0
  | 0 => h
  | i + 1 => payF_z (paysF_z h i)
theorem hourF_z {T : Tn} {s : St} {c : Nat} (h : s 5 c = 0) : hourF T s 5 c = 0 := by
  rw [hourF_debt]
  split
  · show intF T _ _ = 0
    rw [paysF_z h, intF_z]
  · exact paysF_z h _
theorem hoursF_z {T : Tn} {s : St} {c : Nat} {i : Nat} (h : hoursF T i s 5 c = 0) : ∀ m, i ≤ m → hoursF T m s 5 c = 0
  | 0, hm => by
    have : i = 0 := by omega
    subst this
    exact h
  | m + 1, hm => by
    by_cases z : i = m + 1
    · rw [← z]
      exact h
    · exact hourF_z (hoursF_z h m (by omega))
theorem upd_dl (c : Nat) (x y : Int32) : upd (dl c x) c y = dl c y := by
  funext k
  unfold upd dl
  by_cases z : k = c
  · rw [if_pos z, if_pos z]
  · rw [if_neg z, if_neg z, if_neg z]
theorem upd_id (f : Nat → Int32) (k : Nat) (x : Int32) (h : f k = x) : upd f k x = f := by
  funext j
  unfold upd
  by_cases z : j = k
  · rw [if_pos z, z, h]
  · rw [if_neg z]
theorem payF_left {T : Tn} {s h : St} {c p : Nat} {cd : (Nat → Int32) × (Nat → Int32)} (hT : okT T) (hp : p < tN T) (e3 : ∃ q, q < tN T ∧ h 3 p = nI q) (hn : h 3 p = nI p ∨ tR T 6 p ≤ 0 ∨ h 2 p = -1 ∨ pix h p ≠ c) (hc : ∀ q, q < tN T → 0 ≤ cd.1 q) (hs : ∀ q, q < tN T → 0 ≤ s 4 q) :
    (payF T h p (s 4, dl c (cd.2 c))).2 = (s 4, dl c ((payF T h p cd).2.2 c)) := by
  by_cases w : wts T h p = false
  · unfold payF
    rw [if_pos (.inl w), if_pos (.inl w)]
  by_cases hk : pix h p = c
  · have edl : dl c (cd.2 c) (pix h p) = cd.2 c := by unfold dl; rw [if_pos hk]
    have ecd : cd.2 (pix h p) = cd.2 c := by rw [hk]
    unfold payF
    simp only []
    rw [edl, ecd]
    by_cases z : cd.2 c = 0 ∨ lawF T h (cd.2 c) p = 0
    · rw [if_pos (.inr z), if_pos (.inr z)]
    · have z' : ¬ (wts T h p = false ∨ cd.2 c = 0 ∨ lawF T h (cd.2 c) p = 0) := fun g => g.elim w z
      rw [if_neg z', if_neg z']
      by_cases y : h 3 p = nI p
      · rw [if_pos y, if_pos y, hk]
        show (s 4, upd (dl c (cd.2 c)) c _) = (s 4, dl c (upd cd.2 c _ c))
        rw [upd_dl]
        unfold upd
        rw [if_pos rfl]
      · rw [if_neg y, if_neg y]
        have hpr : tR T 6 p = 0 := by
          rcases hn with g | g | g | g
          · exact absurd g y
          · exact Int32.le_antisymm g (hT.2.2.2.1 p hp).2.1
          · exact absurd g (wts_no (by simpa using w))
          · exact absurd hk g
        obtain ⟨q, hq, e⟩ := e3
        have hix : ix (h 3 p) = q := by rw [e]; have := hT.1; exact ni_cl (by omega)
        have n1 : ¬ cd.1 (ix (h 3 p)) < tR T 6 p := by rw [hix, hpr]; exact Int32.not_lt.mpr (hc q hq)
        have n2 : ¬ s 4 (ix (h 3 p)) < tR T 6 p := by rw [hix, hpr]; exact Int32.not_lt.mpr (hs q hq)
        rw [if_neg n1, if_neg n2, hk, hpr]
        show (upd (upd (s 4) (ix (h 3 p)) _) p _, upd (dl c (cd.2 c)) c _) = (s 4, dl c (upd cd.2 c _ c))
        rw [upd_dl, Int32.sub_zero, Int32.add_zero, upd_id (s 4) (ix (h 3 p)) _ rfl, upd_id (s 4) p _ rfl]
        unfold upd
        rw [if_pos rfl]
  · have edl : dl c (cd.2 c) (pix h p) = 0 := by unfold dl; rw [if_neg hk]
    rw [payF_ne hk]
    unfold payF
    simp only []
    rw [edl, if_pos (.inr (.inl rfl))]
theorem paysG_S {T : Tn} {s h : St} {c : Nat} {b : Bool} (hT : okT T) (hS : okS T h) (hs : okS T s) (e2 : h 2 = s 2) (e3 : h 3 = s 3) (hn : b = false → noC T s c) :
    ∀ i, i ≤ tN T → paysG T h (cdS b c s h) i = if b then paysF T h i else (s 4, dl c ((paysF T h i).2 c)) := by
  intro i
  cases b with
  | true =>
    intro _
    rw [if_pos rfl]
    exact paysG_F T h i
  | false =>
    rw [if_neg (by decide)]
    induction i with
    | zero => intro _; rfl
    | succ i ih =>
      intro hi
      show (payF T h i (paysG T h (cdS false c s h) i)).2 = (s 4, dl c ((payF T h i (paysF T h i)).2.2 c))
      rw [ih (by omega)]
      have hB : okCn (tN T) 1000000 (h 4) 0 := fun p hp => by
        have := (hS.1 p hp).2.2
        have := hS.2.2.2
        have q := le0.mp (hS.1 p hp).2.2.1
        simp
        omega
      have hcn := okCn_paysF hT hS (by omega) hB i (by omega)
      refine payF_left hT (by omega) (hS.1 i (by omega)).2.1 ?_ (fun q hq => le0.mpr (hcn q hq).1) (fun q hq => (hs.1 q hq).2.2.1)
      have := hn rfl i (by omega)
      unfold pix at this ⊢
      rw [e2, e3]
      exact this
