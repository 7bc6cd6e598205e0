section JOStr
variable {α : Type} {G : JG} {y : MI} {d pc : Nat} {L : List (Option Value)} {S : List Value} {σ : Mem} {ι : α → Option Value × Mem} {r : Option α}
theorem JO_ldcs {i idx : Nat} (hi : i < 2) (hix : j_ix i = idx) (ho : y.1.cls = RX9) (hd : decode y.2.1 pc = .ok (.ldc idx, 2)) (h : JO G y d (pc + 2) L (.ref (G.2.2.2.1 i) :: S) σ ι r) : JO G y d pc L S σ ι r := fun v hv => by
  intro p l e R s m args below meth c H locs ls Q C hH hz hS hl h1 h2
  subst hix
  have c4 := C.2.2.2.1
  rw [ho] at c4
  exact va_ldcS C.1 C.2.1 c4 (C.2.2.2.2.2.1.2.2.1 i hi) hd (h v hv p l e R s m args below meth c H locs ls Q C hH hz hS hl h1 h2)
theorem JO_gets1 {own : String} {idx : Nat} (lk : Cond.fieldLink own idx "java/lang/String" "COMPACT_STRINGS" "Z" ∈ GW) (ho : own = y.1.cls) (hd : decode y.2.1 pc = .ok (.getstatic idx, 3)) (h : JO G y d (pc + 3) L (.int 1 :: S) σ ι r) : JO G y d pc L S σ ι r := fun v hv => by
  intro p l e R s m args below meth c H locs ls Q C hH hz hS hl h1 h2
  subst ho
  exact va_gets C.1 C.2.1 C.2.2.2.2.2.1.2.2.2.2.1 hS C.2.2.2.1 (C.2.2.2.2.1 _ lk) (fun _ h9 => h9) hd (h v hv p l e R s m args below meth c H locs ls Q C hH hz hS hl h1 h2)
theorem JO_getsu {own : String} {idx : Nat} (lk : Cond.fieldLink own idx "jdk/internal/util/Preconditions" "SIOOBE_FORMATTER" "Ljava/util/function/BiFunction;" ∈ GW) (ho : own = y.1.cls) (hd : decode y.2.1 pc = .ok (.getstatic idx, 3)) (h : ∀ u : Value, (u = .null ∨ ∃ t, u = .ref t) → JO G y d (pc + 3) L (u :: S) σ ι r) : JO G y d pc L S σ ι r := fun v hv => by
  intro p l e R s m args below meth c H locs ls Q C hH hz hS hl h1 h2
  subst ho
  rcases C.2.2.2.2.2.1.2.2.2.2.2.1 with hZ | ⟨t, hZ⟩
  · exact va_gets C.1 C.2.1 hZ hS C.2.2.2.1 (C.2.2.2.2.1 _ lk) (fun _ h9 => h9) hd (h _ (Or.inl rfl) v hv p l e R s m args below meth c H locs ls Q C hH hz hS hl h1 h2)
  · exact va_gets C.1 C.2.1 hZ hS C.2.2.2.1 (C.2.2.2.2.1 _ lk) (fun _ h9 => h9) hd (h _ (Or.inr ⟨t, rfl⟩) v hv p l e R s m args below meth c H locs ls Q C hH hz hS hl h1 h2)
theorem JO_strval {own : String} {i idx : Nat} (hi : i < 2) (lk : Cond.fieldLink own idx "java/lang/String" "value" "[B" ∈ GW) (ho : own = y.1.cls) (hd : decode y.2.1 pc = .ok (.getfield idx, 3)) (h : JO G y d (pc + 3) L (.ref (G.2.2.2.2.1 i) :: S) σ ι r) : JO G y d pc L (.ref (G.2.2.2.1 i) :: S) σ ι r := fun v hv => by
  intro p l e R s m args below meth c H locs ls Q C hH hz hS hl h1 h2
  subst ho
  exact vk_getf C.1 C.2.1 (C.2.2.2.2.2.1.2.2.2.1.1 i hi).2.2.1 hS C.2.2.2.1 (C.2.2.2.2.1 _ lk) (fun _ h9 => h9) hd (h v hv p l e R s m args below meth c H locs ls Q C hH hz hS hl h1 h2)
theorem JO_strcod {own : String} {i idx : Nat} (hi : i < 2) (lk : Cond.fieldLink own idx "java/lang/String" "coder" "B" ∈ GW) (ho : own = y.1.cls) (hd : decode y.2.1 pc = .ok (.getfield idx, 3)) (h : JO G y d (pc + 3) L (.int 0 :: S) σ ι r) : JO G y d pc L (.ref (G.2.2.2.1 i) :: S) σ ι r := fun v hv => by
  intro p l e R s m args below meth c H locs ls Q C hH hz hS hl h1 h2
  subst ho
  exact vk_getf C.1 C.2.1 (C.2.2.2.2.2.1.2.2.2.1.1 i hi).2.1 hS C.2.2.2.1 (C.2.2.2.2.1 _ lk) (fun _ h9 => h9) hd (h v hv p l e R s m args below meth c H locs ls Q C hH hz hS hl h1 h2)
theorem JO_blen {i : Nat} (hi : i < 2) (hd : decode y.2.1 pc = .ok (.arraylength, 1)) (h : JO G y d (pc + 1) L (.int (Int32.ofNat (j_len.getD i 0)) :: S) σ ι r) : JO G y d pc L (.ref (G.2.2.2.2.1 i) :: S) σ ι r := fun v hv => by
  intro p l e R s m args below meth c H locs ls Q C hH hz hS hl h1 h2
  exact va_tlen C.1 C.2.1 (C.2.2.2.2.2.1.2.2.2.1.1 i hi).2.2.2 hS rfl hd (h v hv p l e R s m args below meth c H locs ls Q C hH hz hS hl h1 h2)
theorem JO_bbald {i : Nat} {a : Int32} (hi : i < 2) (hd : decode y.2.1 pc = .ok (.baload, 1)) (h : JO G y d (pc + 1) L (.int ((j_byt.getD i []).getD a.toNatClampNeg 0) :: S) σ ι r) : JO G y d pc L (.int a :: .ref (G.2.2.2.2.1 i) :: S) σ ι (if ib a (j_len.getD i 0) = true then r else none) := fun v hv => by
  by_cases z : ib a (j_len.getD i 0) = true
  · rw [if_pos z] at hv
    intro p l e R s m args below meth c H locs ls Q C hH hz hS hl h1 h2
    exact va_tb C.1 C.2.1 (C.2.2.2.2.2.1.2.2.2.1.1 i hi).2.2.2 hS (ib_in z) rfl hd (h v hv p l e R s m args below meth c H locs ls Q C hH hz hS hl h1 h2)
  · rw [if_neg z] at hv; cases hv
end JOStr
def J3_checkIndex_8e157 (x0 : Int32) (x1 : Int32) (σ : Mem) : Option (Int32 × Mem) := if x0 < 0 then none else if x0 < x1 then some (x0, σ) else none
theorem w_J3_checkIndex_8e157 (G : JG) (d : Nat) (u : Value) (hu : u = .null ∨ ∃ t, u = .ref t) (x0 : Int32) (x1 : Int32) (σ : Mem) : JS G mJ3_checkIndex_8e157 d [.int x0, .int x1, u] σ rI (J3_checkIndex_8e157 x0 x1 σ) := by
  unfold J3_checkIndex_8e157
  rcases hu with rfl | ⟨t, rfl⟩
  all_goals
    refine JS_of 0 (by decide +kernel) (Nat.le_of_ble_eq_true rfl) rfl ?_
    refine JO_iload_n (pc := 0) dJ3_checkIndex_8e157_0 rfl ?_
    refine JO_if_lt (pc := 1) (tgt := 9) dJ3_checkIndex_8e157_1 (by decide) JO_none ?_
    refine JO_iload_n (pc := 4) dJ3_checkIndex_8e157_4 rfl ?_
    refine JO_iload_n (pc := 5) dJ3_checkIndex_8e157_5 rfl ?_
    refine JO_icmp_lt (pc := 6) (tgt := 16) dJ3_checkIndex_8e157_6 (by decide) ?_ JO_none
    refine JO_iload_n (pc := 16) dJ3_checkIndex_8e157_16 rfl ?_
    exact JO_reti (pc := 17) rfl dJ3_checkIndex_8e157_17
def J0_checkIndex_df160 (x0 : Int32) (x1 : Int32) (σ : Mem) : Option Mem := (J3_checkIndex_8e157 x0 x1 σ).bind fun r1 => some r1.2
theorem w_J0_checkIndex_df160 (G : JG) (d : Nat) (x0 : Int32) (x1 : Int32) (σ : Mem) : JS G mJ0_checkIndex_df160 (d + 1) [.int x0, .int x1] σ rV (J0_checkIndex_df160 x0 x1 σ) := by
  unfold J0_checkIndex_df160
  refine JS_of 0 (by decide +kernel) (Nat.le_of_ble_eq_true rfl) rfl ?_
  refine JO_iload_n (pc := 0) dJ0_checkIndex_df160_0 rfl ?_
  refine JO_iload_n (pc := 1) dJ0_checkIndex_df160_1 rfl ?_
  refine JO_getsu (pc := 2) fs_J0_1053 rfl dJ0_checkIndex_df160_2 (fun u hu => ?_)
  refine JO_callSi (pc := 5) [.int x0, .int x1, u] lk_J0_1059 rfl (w_J3_checkIndex_8e157 G d u hu x0 x1 σ) rfl rfl (Nat.le_of_ble_eq_true rfl) dJ0_checkIndex_df160_5 (fun r1 => ?_)
  refine JO_pop (pc := 8) dJ0_checkIndex_df160_8 rfl ?_
  exact JO_retv (pc := 9) rfl dJ0_checkIndex_df160_9
