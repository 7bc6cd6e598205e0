/-! a good state stays good over an hour -/
theorem toInt_add_of {a b : Int32} (h1 : -2147483648 ≤ a.toInt + b.toInt) (h2 : a.toInt + b.toInt < 2147483648) : (a + b).toInt = a.toInt + b.toInt := by
  rw [Int32.toInt_add]
  exact Int.bmod_eq_of_le (by omega) (by omega)
theorem toInt_sub_of {a b : Int32} (h1 : -2147483648 ≤ a.toInt - b.toInt) (h2 : a.toInt - b.toInt < 2147483648) : (a - b).toInt = a.toInt - b.toInt := by
  rw [Int32.toInt_sub]
  exact Int.bmod_eq_of_le (by omega) (by omega)
def okCn (n : Nat) (B : Int) (c : Nat → Int32) (i : Nat) : Prop := ∀ p, p < n → 0 ≤ (c p).toInt ∧ (c p).toInt ≤ B + (if p < i then 99 else 0)
theorem le0 {a : Int32} : 0 ≤ a ↔ 0 ≤ a.toInt := by
  rw [Int32.le_iff_toInt_le]
  rfl
theorem okCn_payF {T : Tn} {s : St} {B : Int} {i : Nat} {cd : (Nat → Int32) × (Nat → Int32)} (hT : okT T) (hS : okS T s) (hB : B ≤ 1000000) (hi : i < tN T) (h : okCn (tN T) B cd.1 i) : okCn (tN T) B (payF T s i cd).2.1 (i + 1) := by
  have hmono : okCn (tN T) B cd.1 (i + 1) := fun p hp => by
    have := h p hp
    refine ⟨this.1, ?_⟩
    split
    · split at this <;> omega
    · rw [if_neg (by omega)] at this
      exact this.2
  unfold payF
  split
  · exact hmono
  · split
    · exact hmono
    · rename_i hne
      split
      · exact hmono
      · rename_i hlt
        obtain ⟨w, hw, ew⟩ := (hS.1 i hi).2.1
        have hn := hT.1
        have cw : ix (s 3 i) = w := by rw [ew]; exact ni_cl (by omega)
        rw [cw] at hlt ⊢
        have hwi : w ≠ i := fun e => hne (by rw [ew, e])
        have hpr := (hT.2.2.2.1 i hi).2
        rw [Int32.le_iff_toInt_le, Int32.le_iff_toInt_le] at hpr
        have h0 : (0 : Int32).toInt = 0 := rfl
        have h99 : (99 : Int32).toInt = 99 := rfl
        rw [h0, h99] at hpr
        rw [Int32.lt_iff_toInt_lt] at hlt
        intro p hp
        show 0 ≤ (upd (upd cd.1 w (cd.1 w - tR T 6 i)) i (cd.1 i + tR T 6 i) p).toInt ∧ (upd (upd cd.1 w (cd.1 w - tR T 6 i)) i (cd.1 i + tR T 6 i) p).toInt ≤ _
        have hi' := h i hi
        rw [if_neg (by omega)] at hi'
        have hw' := h w hw
        unfold upd
        by_cases z : p = i
        · rw [if_pos z, toInt_add_of (by omega) (by omega), if_pos (by omega)]
          omega
        · rw [if_neg z]
          by_cases y : p = w
          · rw [if_pos y, toInt_sub_of (by omega) (by split at hw' <;> omega)]
            have := hmono w hw
            rw [y]
            omega
          · rw [if_neg y]
            exact hmono p hp
theorem okCn_paysF {T : Tn} {s : St} {B : Int} (hT : okT T) (hS : okS T s) (hB : B ≤ 1000000) (h : okCn (tN T) B (s 4) 0) : ∀ i, i ≤ tN T → okCn (tN T) B (paysF T s i).1 i
  | 0, _ => h
  | i + 1, hi => okCn_payF hT hS hB (by omega) (okCn_paysF hT hS hB h i (by omega))
theorem moreF_r (m : Int32) {v : Nat} (h2 : v ≤ 9999) : ∃ u, u ≤ 9999 ∧ moreF m (nI v) = nI u := by
  unfold moreF
  by_cases x : m < 0
  · rw [if_pos x]
    exact ⟨v, h2, rfl⟩
  · rw [if_neg x]
    obtain ⟨u, hu, rfl⟩ := ni_of (Int32.not_lt.mp x)
    rw [show (9999 : Int32) = nI 9999 from rfl, ni_sub h2]
    by_cases y : nI (9999 - v) < nI u
    · rw [if_pos y]
      exact ⟨9999, by omega, rfl⟩
    · rw [if_neg y, ni_add]
      rw [ni_lt (by omega) hu] at y
      exact ⟨v + u, by omega, rfl⟩
theorem intF_okD {T : Tn} {date : Int32} {d : Nat → Int32} (h : okD (tN T) d) : okD (tN T) (fun k => intF T date (d k)) := by
  intro i j hi hj
  have hh := h i j hi hj
  obtain ⟨v, hv, e⟩ := hh.1
  show (∃ v, v ≤ 9999 ∧ intF T date (d (6 * i + j)) = nI v) ∧ (_ → intF T date (d (6 * i + j)) = 0)
  unfold intF
  cases tP T 1 with
  | none => exact hh
  | some pr =>
    refine ⟨?_, fun w => ?_⟩
    · show ∃ v, v ≤ 9999 ∧ (if d (6 * i + j) = 0 then 0 else moreF _ (d (6 * i + j))) = nI v
      by_cases z : d (6 * i + j) = 0
      · rw [if_pos z]
        exact ⟨0, by omega, rfl⟩
      · rw [if_neg z, e]
        exact moreF_r _ hv
    · exact if_pos (hh.2 w)
theorem hourF_past (T : Tn) (s : St) : hourF T s 0 7 = s 0 7 + 1 := by
  unfold hourF turnF
  split <;> rfl
theorem hourF_aim (T : Tn) (s : St) : hourF T s 2 = s 2 := by
  unfold hourF turnF
  split <;> rfl
theorem hourF_stand (T : Tn) (s : St) : hourF T s 3 = s 3 := by
  unfold hourF turnF
  split <;> rfl
theorem hourF_coin (T : Tn) (s : St) : hourF T s 4 = (paysF T s (tN T)).1 := by
  unfold hourF turnF
  split <;> rfl
theorem hourF_debt (T : Tn) (s : St) : hourF T s 5 = if s 0 6 + 1 = nI (tD T) then (fun j => intF T (s 0 5) ((paysF T s (tN T)).2 j)) else (paysF T s (tN T)).2 := by
  unfold hourF turnF
  rw [show goF T s 0 6 = s 0 6 from rfl]
  by_cases z : s 0 6 + 1 = nI (tD T)
  · simp only [if_pos z]; rfl
  · simp only [if_neg z]; rfl
theorem hourF_hour (T : Tn) (s : St) : hourF T s 0 6 = if s 0 6 + 1 = nI (tD T) then 0 else s 0 6 + 1 := by
  unfold hourF turnF
  rw [show goF T s 0 6 = s 0 6 from rfl]
  by_cases z : s 0 6 + 1 = nI (tD T)
  · simp only [if_pos z]; rfl
  · simp only [if_neg z]; rfl
theorem hourF_date (T : Tn) (s : St) : hourF T s 0 5 = if s 0 6 + 1 = nI (tD T) then s 0 5 + 1 else s 0 5 := by
  unfold hourF turnF
  rw [show goF T s 0 6 = s 0 6 from rfl]
  by_cases z : s 0 6 + 1 = nI (tD T)
  · simp only [if_pos z]; rfl
  · simp only [if_neg z]; rfl
theorem hourF_place (T : Tn) (s : St) : hourF T s 1 = if s 0 6 + 1 = nI (tD T) then tR T 1 else plc T s := by
  unfold hourF turnF
  rw [show goF T s 0 6 = s 0 6 from rfl]
  by_cases z : s 0 6 + 1 = nI (tD T)
  · simp only [if_pos z]; rfl
  · simp only [if_neg z]; rfl
theorem okS_hour {T : Tn} {s : St} (hT : okT T) (hS : okS T s) (hp : (s 0 7).toInt < 3000) : okS T (hourF T s) := by
  have h4 := hS.2.2.2
  have hn := hT.1
  have h1 : (1 : Int32).toInt = 1 := rfl
  have epast : (hourF T s 0 7).toInt = (s 0 7).toInt + 1 := by
    rw [hourF_past, toInt_add_of (by omega) (by omega), h1]
  have hB := okCn_paysF (B := 999 + 99 * (s 0 7).toInt) hT hS (by omega) (fun p hp => by
    have := (hS.1 p hp).2.2
    rw [if_neg (by omega)]
    exact ⟨le0.mp this.1, by omega⟩) (tN T) (Nat.le_refl _)
  refine ⟨fun p hp => ⟨?_, ?_, ?_, ?_⟩, ?_, ?_, ?_, ?_⟩
  · rw [hourF_aim]
    exact (hS.1 p hp).1
  · rw [hourF_stand]
    exact (hS.1 p hp).2.1
  · rw [hourF_coin]
    exact le0.mpr (hB p hp).1
  · rw [hourF_coin, epast]
    have := (hB p hp).2
    rw [if_pos hp] at this
    omega
  · show okD (tN T) (hourF T s 5)
    rw [hourF_debt]
    have := paysF_okD (okS_D hS) (tN T)
    split
    · exact intF_okD this
    · exact this
  · obtain ⟨h, hh, e⟩ := hS.2.2.1
    have h24 := hT.2.2.1
    rw [hourF_hour]
    split
    · exact ⟨0, by have := hT.2.1; omega, rfl⟩
    · rename_i z
      rw [e, ni_succ] at z ⊢
      rw [ni_inj (by omega) (by omega)] at z
      exact ⟨h + 1, by omega, rfl⟩
  · rw [epast]
    omega
  · rw [epast]
    omega
theorem hoursF_past (T : Tn) (s : St) : ∀ n, hoursF T n s 0 7 = s 0 7 + nI n
  | 0 => (Int32.add_zero _).symm
  | n + 1 => by
    show hourF T (hoursF T n s) 0 7 = _
    rw [hourF_past, hoursF_past T s n, Int32.add_assoc, ni_succ]
theorem okS_hours {T : Tn} {s : St} (hT : okT T) (hS : okS T s) : ∀ n : Nat, (s 0 7).toInt + n ≤ 3000 → okS T (hoursF T n s)
  | 0, _ => hS
  | n + 1, h => by
    refine okS_hour hT (okS_hours hT hS n (by omega)) ?_
    have h4 := hS.2.2.2
    have h5 : (nI n).toInt = n := toInt_nI (by omega)
    rw [hoursF_past, toInt_add_of (by omega) (by omega), h5]
    omega
