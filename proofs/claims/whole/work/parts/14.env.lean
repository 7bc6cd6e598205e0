theorem tbl_of {w : Cond} (h : w ∈ GW) : w ∈ lw_tbl := (gw_good h).1
theorem tbt2 {w : Cond} (i : Nat) (h : tables_1_2[i]? = some w) : w ∈ lw_tbl := List.mem_append_right _ (((fun h => List.mem_append_right _ (List.mem_append_left _ h)) : w ∈ tables_1_2 → w ∈ tables_1) (List.mem_of_getElem? h))
theorem tbt3 {w : Cond} (i : Nat) (h : tables_1_3[i]? = some w) : w ∈ lw_tbl := List.mem_append_right _ (((fun h => List.mem_append_right _ (List.mem_append_right _ (List.mem_append_left _ h))) : w ∈ tables_1_3 → w ∈ tables_1) (List.mem_of_getElem? h))
theorem kn_X0 {args : Array Value} {s : State} (hts : ∀ w ∈ lw_tbl, w.before args s = true) : ∃ q : ClassId × (Nat → Nat), u_Kn s RX0 TX0 3 q.1 q.2 := by
  obtain ⟨c, i, h⟩ := u_known (C := RX0) (T := TX0) (N := 3) (n := 3) hts (fun w h => tbl_of (uwX0 w h)) (hts _ (tbl_of (gwt2 57 rfl rfl : Cond.instantiable RX0 3 ∈ GW)))
  exact ⟨(c, i), h⟩
theorem kn_X1 {args : Array Value} {s : State} (hts : ∀ w ∈ lw_tbl, w.before args s = true) : ∃ q : ClassId × (Nat → Nat), u_Kn s RX1 TX1 6 q.1 q.2 := by
  obtain ⟨c, i, h⟩ := u_known (C := RX1) (T := TX1) (N := 6) (n := 6) hts (fun w h => tbl_of (uwX1 w h)) (hts _ (tbl_of (gwt2 75 rfl rfl : Cond.instantiable RX1 6 ∈ GW)))
  exact ⟨(c, i), h⟩
theorem kn_X2 {args : Array Value} {s : State} (hts : ∀ w ∈ lw_tbl, w.before args s = true) : ∃ q : ClassId × (Nat → Nat), u_Kn s RX2 TX2 8 q.1 q.2 := by
  obtain ⟨c, i, h⟩ := u_known (C := RX2) (T := TX2) (N := 8) (n := 8) hts (fun w h => tbl_of (uwX2 w h)) (hts _ (tbl_of (gwt1 73 rfl rfl : Cond.instantiable RX2 8 ∈ GW)))
  exact ⟨(c, i), h⟩
theorem kn_X3 {args : Array Value} {s : State} (hts : ∀ w ∈ lw_tbl, w.before args s = true) : ∃ q : ClassId × (Nat → Nat), u_Kn s RX3 TX3 3 q.1 q.2 := by
  obtain ⟨c, i, h⟩ := u_known (C := RX3) (T := TX3) (N := 3) (n := 3) hts (fun w h => tbl_of (uwX3 w h)) (hts _ (tbl_of (gwt2 39 rfl rfl : Cond.instantiable RX3 3 ∈ GW)))
  exact ⟨(c, i), h⟩
theorem kn_X4 {args : Array Value} {s : State} (hts : ∀ w ∈ lw_tbl, w.before args s = true) : ∃ q : ClassId × (Nat → Nat), u_Kn s RX4 TX4 7 q.1 q.2 := by
  obtain ⟨c, i, h⟩ := u_known (C := RX4) (T := TX4) (N := 7) (n := 7) hts (fun w h => tbl_of (uwX4 w h)) (hts _ (tbl_of (gwt2 106 rfl rfl : Cond.instantiable RX4 7 ∈ GW)))
  exact ⟨(c, i), h⟩
theorem kn_X5 {args : Array Value} {s : State} (hts : ∀ w ∈ lw_tbl, w.before args s = true) : ∃ q : ClassId × (Nat → Nat), u_Kn s RX5 TX5 7 q.1 q.2 := by
  obtain ⟨c, i, h⟩ := u_known (C := RX5) (T := TX5) (N := 7) (n := 7) hts (fun w h => tbl_of (uwX5 w h)) (hts _ (tbl_of (gwt1 31 rfl rfl : Cond.instantiable RX5 7 ∈ GW)))
  exact ⟨(c, i), h⟩
theorem kn_X6 {args : Array Value} {s : State} (hts : ∀ w ∈ lw_tbl, w.before args s = true) : ∃ q : ClassId × (Nat → Nat), u_Kn s RX6 TX6 6 q.1 q.2 := by
  obtain ⟨c, i, h⟩ := u_known (C := RX6) (T := TX6) (N := 6) (n := 6) hts (fun w h => tbl_of (uwX6 w h)) (hts _ (tbl_of (gwt2 141 rfl rfl : Cond.instantiable RX6 6 ∈ GW)))
  exact ⟨(c, i), h⟩
theorem kn_X7 {args : Array Value} {s : State} (hts : ∀ w ∈ lw_tbl, w.before args s = true) : ∃ q : ClassId × (Nat → Nat), u_Kn s RX7 TX7 8 q.1 q.2 := by
  obtain ⟨c, i, h⟩ := u_known (C := RX7) (T := TX7) (N := 8) (n := 8) hts (fun w h => tbl_of (uwX7 w h)) (hts _ (tbl_of (gwt1 226 rfl rfl : Cond.instantiable RX7 8 ∈ GW)))
  exact ⟨(c, i), h⟩
theorem kn_X8 {args : Array Value} {s : State} (hts : ∀ w ∈ lw_tbl, w.before args s = true) : ∃ q : ClassId × (Nat → Nat), u_Kn s RX8 TX8 10 q.1 q.2 := by
  obtain ⟨c, i, h⟩ := u_known (C := RX8) (T := TX8) (N := 10) (n := 10) hts (fun w h => tbl_of (uwX8 w h)) (hts _ (tbl_of (gwt2 170 rfl rfl : Cond.instantiable RX8 10 ∈ GW)))
  exact ⟨(c, i), h⟩
theorem kn_X9 {args : Array Value} {s : State} (hts : ∀ w ∈ lw_tbl, w.before args s = true) : ∃ q : ClassId × (Nat → Nat), u_Kn s RX9 TX9 6 q.1 q.2 := by
  obtain ⟨c, i, h⟩ := u_known (C := RX9) (T := TX9) (N := 6) (n := 6) hts (fun w h => tbl_of (uwX9 w h)) (hts _ (tbl_of (gwt1 37 rfl rfl : Cond.instantiable RX9 6 ∈ GW)))
  exact ⟨(c, i), h⟩
theorem kn_X10 {args : Array Value} {s : State} (hts : ∀ w ∈ lw_tbl, w.before args s = true) : ∃ q : ClassId × (Nat → Nat), u_Kn s RX10 TX10 15 q.1 q.2 := by
  obtain ⟨c, i, h⟩ := u_known (C := RX10) (T := TX10) (N := 15) (n := 15) hts (fun w h => tbl_of (uwX10 w h)) (hts _ (tbl_of (gwt1 67 rfl rfl : Cond.instantiable RX10 15 ∈ GW)))
  exact ⟨(c, i), h⟩
theorem kn_X11 {args : Array Value} {s : State} (hts : ∀ w ∈ lw_tbl, w.before args s = true) : ∃ q : ClassId × (Nat → Nat), u_Kn s RX11 TX11 15 q.1 q.2 := by
  obtain ⟨c, i, h⟩ := u_known (C := RX11) (T := TX11) (N := 15) (n := 15) hts (fun w h => tbl_of (uwX11 w h)) (hts _ (tbl_of (gwt1 23 rfl rfl : Cond.instantiable RX11 15 ∈ GW)))
  exact ⟨(c, i), h⟩
theorem kn_X12 {args : Array Value} {s : State} (hts : ∀ w ∈ lw_tbl, w.before args s = true) : ∃ q : ClassId × (Nat → Nat), u_Kn s RX12 TX12 90 q.1 q.2 := by
  obtain ⟨c, i, h⟩ := u_known (C := RX12) (T := TX12) (N := 90) (n := 90) hts (fun w h => tbl_of (uwX12 w h)) (hts _ (tbl_of (gwt5 232 rfl rfl : Cond.instantiable RX12 90 ∈ GW)))
  exact ⟨(c, i), h⟩
theorem kn_all {args : Array Value} {s : State} (hts : ∀ w ∈ lw_tbl, w.before args s = true) : ∃ D : va_G, ∀ (k : Nat) (q : vw_C), vwCl[k]? = some q → u_Kn s q.1 q.2.1 q.2.2 (D.1 k) (D.2 k) := by
  have h : ∀ k : Nat, ∃ p : ClassId × (Nat → Nat), ∀ q : vw_C, vwCl[k]? = some q → u_Kn s q.1 q.2.1 q.2.2 p.1 p.2 := by
    intro k
    match k with
    | 0 => obtain ⟨p, hp⟩ := kn_X0 hts; exact ⟨p, fun q hq => by cases hq; exact hp⟩
    | 1 => obtain ⟨p, hp⟩ := kn_X1 hts; exact ⟨p, fun q hq => by cases hq; exact hp⟩
    | 2 => obtain ⟨p, hp⟩ := kn_X2 hts; exact ⟨p, fun q hq => by cases hq; exact hp⟩
    | 3 => obtain ⟨p, hp⟩ := kn_X3 hts; exact ⟨p, fun q hq => by cases hq; exact hp⟩
    | 4 => obtain ⟨p, hp⟩ := kn_X4 hts; exact ⟨p, fun q hq => by cases hq; exact hp⟩
    | 5 => obtain ⟨p, hp⟩ := kn_X5 hts; exact ⟨p, fun q hq => by cases hq; exact hp⟩
    | 6 => obtain ⟨p, hp⟩ := kn_X6 hts; exact ⟨p, fun q hq => by cases hq; exact hp⟩
    | 7 => obtain ⟨p, hp⟩ := kn_X7 hts; exact ⟨p, fun q hq => by cases hq; exact hp⟩
    | 8 => obtain ⟨p, hp⟩ := kn_X8 hts; exact ⟨p, fun q hq => by cases hq; exact hp⟩
    | 9 => obtain ⟨p, hp⟩ := kn_X9 hts; exact ⟨p, fun q hq => by cases hq; exact hp⟩
    | 10 => obtain ⟨p, hp⟩ := kn_X10 hts; exact ⟨p, fun q hq => by cases hq; exact hp⟩
    | 11 => obtain ⟨p, hp⟩ := kn_X11 hts; exact ⟨p, fun q hq => by cases hq; exact hp⟩
    | 12 => obtain ⟨p, hp⟩ := kn_X12 hts; exact ⟨p, fun q hq => by cases hq; exact hp⟩
    | k + 13 => exact ⟨(0, fun _ => 0), fun q hq => by simp [vwCl] at hq⟩
  obtain ⟨f, hf⟩ := Classical.axiomOfChoice h
  exact ⟨(fun k => (f k).1, fun k => (f k).2), fun k q hq => hf k q hq⟩
theorem arr_of {s : State} {ty : FieldType} {args : Array Value} (h : (Cond.arrayClass ty).before args s = true) (hp : ∀ C, ty ≠ .object C) : ∃ c : ClassId, ArrOfT s c ty ∧ va_RA s c ty := by
  obtain ⟨c, k, comp, h1, h2, h3⟩ := Cond.arrayClass_spec h
  refine ⟨c, fun N z => ⟨(fun k h => by cases h), k, h2, comp, h3⟩, ?_⟩
  cases ty with
  | object C => exact absurd rfl (hp C)
  | _ => exact h1
def j_tm (i : Nat) : Term := .string RX9 (j_ix i)
set_option maxRecDepth 100000 in
theorem nar_str : ∀ i, i < 2 → (Cond.exactly (j_tm i) "java/lang/String" ∈ flatC (Jvm.Cond.and given_1 narrow_1) ∧ Cond.eq (.field (j_tm i) "java/lang/String" "coder" "B") (.int 0) ∈ flatC (Jvm.Cond.and given_1 narrow_1) ∧ Cond.arrayOf (.field (j_tm i) "java/lang/String" "value" "[B") .byte ∈ flatC (Jvm.Cond.and given_1 narrow_1) ∧ Cond.eq (.length (.field (j_tm i) "java/lang/String" "value" "[B")) (.int (Int32.ofNat (j_len.getD i 0))) ∈ flatC (Jvm.Cond.and given_1 narrow_1)) := by decide +kernel
set_option maxRecDepth 100000 in
theorem nar_el : ∀ i, i < 2 → ∀ j, j < j_len.getD i 0 → Cond.eq (.elem (.field (j_tm i) "java/lang/String" "value" "[B") (.int (Int32.ofNat j))) (.int ((j_byt.getD i []).getD j 0)) ∈ flatC (Jvm.Cond.and given_1 narrow_1) := by decide +kernel
set_option maxRecDepth 100000 in
theorem nar_ne : Cond.not (Cond.eq (j_tm 1) (j_tm 0)) ∈ flatC (Jvm.Cond.and given_1 narrow_1) ∧ Cond.eq (.static "java/lang/String" "COMPACT_STRINGS" "Z") (.int 1) ∈ flatC (Jvm.Cond.and given_1 narrow_1) ∧ Cond.isRef (.static "jdk/internal/util/Preconditions" "SIOOBE_FORMATTER" "Ljava/util/function/BiFunction;") ∈ flatC (Jvm.Cond.and given_1 narrow_1) := by decide +kernel
set_option maxHeartbeats 4000000 in
set_option maxRecDepth 100000 in
theorem law_env {args : Array Value} {s : State} {b L : Nat} {xs : Nat → Int32} (hts : ∀ w ∈ lw_tbl, w.before args s = true) (hX : va_X b L xs s s.heap) (hbl : b < s.heap.size) (hgv : (Jvm.Cond.and given_1 narrow_1).before args s = true) : ∃ G : JG, G.1 = s.heap.size ∧ G.2.2.2.2.2 = (b, L, xs) ∧ j_E G s := by
  have hg := flat_of_before _ hgv
  obtain ⟨D, hD⟩ := kn_all hts
  obtain ⟨c0, a0, r0⟩ := arr_of (hts _ (tbl_of (gwt1 108 rfl rfl : Cond.arrayClass .int ∈ GW))) (by intro C h; cases h)
  obtain ⟨c1, a1, r1⟩ := arr_of (hts _ (tbl_of (gwt1 65 rfl rfl : Cond.arrayClass .byte ∈ GW))) (by intro C h; cases h)
  obtain ⟨c2, a2, r2⟩ := arr_of (hts _ (tbl_of (gwt3 18 rfl rfl : Cond.arrayClass .boolean ∈ GW))) (by intro C h; cases h)
  obtain ⟨c3, a3, r3⟩ := arr_of (hts _ (tbl_of (gwt7 28 rfl rfl : Cond.arrayClass .long ∈ GW))) (by intro C h; cases h)
  have hao := hts (Cond.arrayOver (.object RX7)) (tbt2 114 rfl)
  obtain ⟨comp4, c4, k4, f1, f2, f3, f4, f5⟩ := Cond.arrayOver_spec hao
  have a4 : ArrOfT s c4 (.object RX7) := fun N z => ⟨(fun k h => by cases h), k4, f3, comp4, f4⟩
  have r4 : va_RA s c4 (.object RX7) := ⟨k4, comp4, f3, f4, f1, f5⟩
  have hA : ∀ a : Nat, a < s.heap.size → ¬ (fun q : Nat => s.heap.size ≤ q) a := fun a h z => absurd h (Nat.not_lt.mpr z)
  obtain ⟨adK, adV, hS, hev⟩ := vk_Sof (args := args) (s := s) (N := 2) (tm := j_tm) (len := j_len) (byt := j_byt) (A := fun q : Nat => s.heap.size ≤ q) (by decide) (fun i hi => hg _ (nar_str i hi).1) (fun i hi => hg _ (nar_str i hi).2.1) (fun i hi => hg _ (nar_str i hi).2.2.1) (fun i hi => hg _ (nar_str i hi).2.2.2) (fun i hi j hj => hg _ (nar_el i hi j hj)) (fun i j hi hj hij => by
    rcases (show (i = 0 ∧ j = 1) ∨ (i = 1 ∧ j = 0) by omega) with ⟨rfl, rfl⟩ | ⟨rfl, rfl⟩
    · exact Or.inr (hg _ nar_ne.1)
    · exact Or.inl (hg _ nar_ne.1)) hA
  refine ⟨(s.heap.size, D, fun k => if k = 0 then c0 else if k = 1 then c1 else if k = 2 then c2 else if k = 3 then c3 else c4, adK, adV, (b, L, xs)), rfl, rfl, ⟨hD, fun k q hk => ?_⟩, fun w hw => ?_, fun i hi => ?_, hS, ?_, ?_, hao, hX, hbl, hbl⟩
  · match k, hk with
    | 0, hk => cases hk; exact ⟨a0, r0⟩
    | 1, hk => cases hk; exact ⟨a1, r1⟩
    | 2, hk => cases hk; exact ⟨a2, r2⟩
    | 3, hk => cases hk; exact ⟨a3, r3⟩
    | 4, hk => cases hk; exact ⟨a4, r4⟩
    | k + 5, hk => simp [j_tys] at hk
  · have hm := (List.mem_filter.mp hw).1
    obtain ⟨a, i, x, b, rfl⟩ := NW_nest hw
    exact va_Nw.of rfl (hts _ (List.mem_append_right _ hm))
  · refine vk_R.of (A := args) ?_ (hev i hi)
    rcases (show i = 0 ∨ i = 1 by omega) with rfl | rfl
    · exact hts _ (tbt3 130 rfl)
    · exact hts _ (tbt3 73 rfl)
  · exact va_Zof (hts _ (tbt3 83 rfl)) (hts _ (tbl_of (gwt1 16 rfl rfl))) (va_eqt (hg _ nar_ne.2.1)) hA
  · exact va_Zqof (hts _ (tbt3 99 rfl)) (hts _ (tbl_of (gwt1 18 rfl rfl))) (hg _ nar_ne.2.2) hA
