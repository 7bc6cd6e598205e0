set_option maxHeartbeats 4000000 in
set_option maxRecDepth 100000 in
theorem w_X5_readOne_76 (G : JG) (d : Nat) (R : (Nat → Nat → Int32 → Mem → Option Mem)) (f : Nat) (hf : isForm f) (hR : ∀ (f : Nat) (hf : isForm f) (x2 : Int32) (σ : Mem), JS G mX5_readWhole (d + 6) [.ref (G.1 + off 2), .ref (G.1 + off f), .int x2] σ rV (R 0 f x2 σ) ∧ JS G mX5_readBoth (d + 6) [.ref (G.1 + off 2), .ref (G.1 + off f), .int x2] σ rV (R 1 f x2 σ) ∧ JS G mX5_readOne (d + 6) [.ref (G.1 + off 2), .ref (G.1 + off f), .int x2] σ rV (R 2 f x2 σ) ∧ JS G mX5_readSum (d + 6) [.ref (G.1 + off 2), .ref (G.1 + off f), .int x2] σ rV (R 3 f x2 σ) ∧ JS G mX5_readTerm (d + 6) [.ref (G.1 + off 2), .ref (G.1 + off f), .int x2] σ rV (R 4 f x2 σ) ∧ JS G mX5_readUnit (d + 6) [.ref (G.1 + off 2), .ref (G.1 + off f), .int x2] σ rV (R 5 f x2 σ)) : ∀ (x2 : Int32) (σ : Mem), JO G mX5_readOne (d + 7) 76 [some (.ref (G.1 + off 2)), some (.ref (G.1 + off f)), some (.int x2), none] [] σ rV (X5_readOne_76 R f x2 σ) := by
  intro x2 σ
  unfold X5_readOne_76
  refine JO_aload_n (pc := 76) dX5_readOne_76 rfl ?_
  refine JO_getR (pc := 77) fl_X5_12 rfl fkX5_tokens dX5_readOne_77 ?_
  refine JO_getI (pc := 80) fl_X5_50 rfl fkX9_kind dX5_readOne_80 ?_
  refine JO_nm (fun v10 => ?_)
  refine JO_istore_n (pc := 83) (L' := [some (.ref (G.1 + off 2)), some (.ref (G.1 + off f)), some (.int x2), some (.int v10)]) dX5_readOne_83 rfl rfl rfl ?_
  refine JO_aload_n (pc := 84) dX5_readOne_84 rfl ?_
  refine JO_getR (pc := 85) fl_X5_12 rfl fkX5_tokens dX5_readOne_85 ?_
  refine JO_callVv (pc := 88) [] lk_X5_91 rfl (ci := 9) rfl shX9 (w_X9_next G (d + 1)  σ) rfl rfl (Nat.le_of_ble_eq_true rfl) dX5_readOne_88 (fun σ11 => ?_)
  refine JO_aload_n (pc := 91) dX5_readOne_91 rfl ?_
  refine JO_aload_n (pc := 92) dX5_readOne_92 rfl ?_
  refine JO_iload_n (pc := 93) dX5_readOne_93 rfl ?_
  refine JO_callVv (pc := 94) [.ref (G.1 + off f), .int x2] lk_X5_179 rfl (ci := 5) rfl shX5 ((hR f hf x2 σ11).2.2.2.1) rfl rfl (Nat.le_of_ble_eq_true rfl) dX5_readOne_94 (fun σ12 => ?_)
  refine JO_aload_n (pc := 97) dX5_readOne_97 rfl ?_
  refine JO_iload_n (pc := 98) dX5_readOne_98 rfl ?_
  refine JO_callVv (pc := 99) [.int v10] lk_X5_173 rfl (ci := 2) rfl (shForm hf) (w_X2_addOperation G (d + 6) f hf v10 σ12) rfl rfl (Nat.le_of_ble_eq_true rfl) dX5_readOne_99 (fun σ13 => ?_)
  exact JO_retv (pc := 102) rfl dX5_readOne_102
set_option maxHeartbeats 4000000 in
set_option maxRecDepth 100000 in
theorem w_X5_readOne (G : JG) (d : Nat) (R : (Nat → Nat → Int32 → Mem → Option Mem)) (f : Nat) (hf : isForm f) (hR : ∀ (f : Nat) (hf : isForm f) (x2 : Int32) (σ : Mem), JS G mX5_readWhole (d + 6) [.ref (G.1 + off 2), .ref (G.1 + off f), .int x2] σ rV (R 0 f x2 σ) ∧ JS G mX5_readBoth (d + 6) [.ref (G.1 + off 2), .ref (G.1 + off f), .int x2] σ rV (R 1 f x2 σ) ∧ JS G mX5_readOne (d + 6) [.ref (G.1 + off 2), .ref (G.1 + off f), .int x2] σ rV (R 2 f x2 σ) ∧ JS G mX5_readSum (d + 6) [.ref (G.1 + off 2), .ref (G.1 + off f), .int x2] σ rV (R 3 f x2 σ) ∧ JS G mX5_readTerm (d + 6) [.ref (G.1 + off 2), .ref (G.1 + off f), .int x2] σ rV (R 4 f x2 σ) ∧ JS G mX5_readUnit (d + 6) [.ref (G.1 + off 2), .ref (G.1 + off f), .int x2] σ rV (R 5 f x2 σ)) (x2 : Int32) (σ : Mem) : JS G mX5_readOne (d + 7) [.ref (G.1 + off 2), .ref (G.1 + off f), .int x2] σ rV (X5_readOne R f x2 σ) := by
  refine JS_of 1 (by decide +kernel) (Nat.le_of_ble_eq_true rfl) (L := [some (.ref (G.1 + off 2)), some (.ref (G.1 + off f)), some (.int x2), none]) rfl ?_
  unfold X5_readOne
  refine JO_aload_n (pc := 0) dX5_readOne_0 rfl ?_
  refine JO_bipush (pc := 1) (a := 115) dX5_readOne_1 (by decide) ?_
  refine JO_callVi (pc := 3) [.int 115] lk_X5_87 rfl (ci := 5) rfl shX5 (w_X5_isAt G (d + 5) 115 σ) rfl rfl (Nat.le_of_ble_eq_true rfl) dX5_readOne_3 (fun r1 => ?_)
  refine JO_if_eq (pc := 6) (tgt := 43) dX5_readOne_6 (by decide) ?_ ?_
  · refine JO_aload_n (pc := 43) dX5_readOne_43 rfl ?_
    refine JO_aload_n (pc := 44) dX5_readOne_44 rfl ?_
    refine JO_iload_n (pc := 45) dX5_readOne_45 rfl ?_
    refine JO_callVv (pc := 46) [.ref (G.1 + off f), .int x2] lk_X5_179 rfl (ci := 5) rfl shX5 ((hR f hf x2 r1.2).2.2.2.1) rfl rfl (Nat.le_of_ble_eq_true rfl) dX5_readOne_46 (fun σ2 => ?_)
    refine JO_aload_n (pc := 49) dX5_readOne_49 rfl ?_
    refine JO_bipush (pc := 50) (a := 60) dX5_readOne_50 (by decide) ?_
    refine JO_callVi (pc := 52) [.int 60] lk_X5_87 rfl (ci := 5) rfl shX5 (w_X5_isAt G (d + 5) 60 σ2) rfl rfl (Nat.le_of_ble_eq_true rfl) dX5_readOne_52 (fun r3 => ?_)
    refine JO_if_ne (pc := 55) (tgt := 76) dX5_readOne_55 (by decide) ?_ ?_
    · exact JO_sub (l_sub_some (l_sub_some (l_sub_some (l_sub_none (l_sub_nil))))) (w_X5_readOne_76 G d R f hf hR x2 r3.2)
    · refine JO_aload_n (pc := 58) dX5_readOne_58 rfl ?_
      refine JO_bipush (pc := 59) (a := 62) dX5_readOne_59 (by decide) ?_
      refine JO_callVi (pc := 61) [.int 62] lk_X5_87 rfl (ci := 5) rfl shX5 (w_X5_isAt G (d + 5) 62 r3.2) rfl rfl (Nat.le_of_ble_eq_true rfl) dX5_readOne_61 (fun r4 => ?_)
      refine JO_if_ne (pc := 64) (tgt := 76) dX5_readOne_64 (by decide) ?_ ?_
      · exact JO_sub (l_sub_some (l_sub_some (l_sub_some (l_sub_none (l_sub_nil))))) (w_X5_readOne_76 G d R f hf hR x2 r4.2)
      · refine JO_aload_n (pc := 67) dX5_readOne_67 rfl ?_
        refine JO_bipush (pc := 68) (a := 61) dX5_readOne_68 (by decide) ?_
        refine JO_callVi (pc := 70) [.int 61] lk_X5_87 rfl (ci := 5) rfl shX5 (w_X5_isAt G (d + 5) 61 r4.2) rfl rfl (Nat.le_of_ble_eq_true rfl) dX5_readOne_70 (fun r5 => ?_)
        refine JO_if_eq (pc := 73) (tgt := 102) dX5_readOne_73 (by decide) ?_ ?_
        · exact JO_retv (pc := 102) rfl dX5_readOne_102
        · exact JO_sub (l_sub_some (l_sub_some (l_sub_some (l_sub_none (l_sub_nil))))) (w_X5_readOne_76 G d R f hf hR x2 r5.2)
  · refine JO_iload_n (pc := 9) dX5_readOne_9 rfl ?_
    refine JO_bipush (pc := 10) (a := 6) dX5_readOne_10 (by decide) ?_
    refine JO_icmp_le (pc := 12) (tgt := 21) dX5_readOne_12 (by decide) ?_ ?_
    · refine JO_aload_n (pc := 21) dX5_readOne_21 rfl ?_
      refine JO_getR (pc := 22) fl_X5_12 rfl fkX5_tokens dX5_readOne_22 ?_
      refine JO_callVv (pc := 25) [] lk_X5_91 rfl (ci := 9) rfl shX9 (w_X9_next G (d + 1)  r1.2) rfl rfl (Nat.le_of_ble_eq_true rfl) dX5_readOne_25 (fun σ6 => ?_)
      refine JO_aload_n (pc := 28) dX5_readOne_28 rfl ?_
      refine JO_aload_n (pc := 29) dX5_readOne_29 rfl ?_
      refine JO_iload_n (pc := 30) dX5_readOne_30 rfl ?_
      refine JO_iconst (pc := 31) (a := 1) dX5_readOne_31 (by decide) ?_
      refine JO_iadd (pc := 32) dX5_readOne_32 ?_
      refine JO_callVv (pc := 33) [.ref (G.1 + off f), .int (x2 + 1)] lk_X5_176 rfl (ci := 5) rfl shX5 ((hR f hf (x2 + 1) σ6).2.2.1) rfl rfl (Nat.le_of_ble_eq_true rfl) dX5_readOne_33 (fun σ7 => ?_)
      refine JO_aload_n (pc := 36) dX5_readOne_36 rfl ?_
      refine JO_bipush (pc := 37) (a := 115) dX5_readOne_37 (by decide) ?_
      refine JO_callVv (pc := 39) [.int 115] lk_X5_173 rfl (ci := 2) rfl (shForm hf) (w_X2_addOperation G (d + 6) f hf 115 σ7) rfl rfl (Nat.le_of_ble_eq_true rfl) dX5_readOne_39 (fun σ8 => ?_)
      exact JO_retv (pc := 42) rfl dX5_readOne_42
    · refine JO_aload_n (pc := 15) dX5_readOne_15 rfl ?_
      refine JO_iconst (pc := 16) (a := 2) dX5_readOne_16 (by decide) ?_
      refine JO_callVv (pc := 17) [.int 2] lk_X5_77 rfl (ci := 5) rfl shX5 (w_X5_fail G (d + 5) 2 r1.2) rfl rfl (Nat.le_of_ble_eq_true rfl) dX5_readOne_17 (fun σ9 => ?_)
      exact JO_retv (pc := 20) rfl dX5_readOne_20
set_option maxHeartbeats 4000000 in
set_option maxRecDepth 100000 in
theorem w_X5_readBoth_8 (G : JG) (d : Nat) (R : (Nat → Nat → Int32 → Mem → Option Mem)) (f : Nat) (hf : isForm f) (hR : ∀ (f : Nat) (hf : isForm f) (x2 : Int32) (σ : Mem), JS G mX5_readWhole (d + 6) [.ref (G.1 + off 2), .ref (G.1 + off f), .int x2] σ rV (R 0 f x2 σ) ∧ JS G mX5_readBoth (d + 6) [.ref (G.1 + off 2), .ref (G.1 + off f), .int x2] σ rV (R 1 f x2 σ) ∧ JS G mX5_readOne (d + 6) [.ref (G.1 + off 2), .ref (G.1 + off f), .int x2] σ rV (R 2 f x2 σ) ∧ JS G mX5_readSum (d + 6) [.ref (G.1 + off 2), .ref (G.1 + off f), .int x2] σ rV (R 3 f x2 σ) ∧ JS G mX5_readTerm (d + 6) [.ref (G.1 + off 2), .ref (G.1 + off f), .int x2] σ rV (R 4 f x2 σ) ∧ JS G mX5_readUnit (d + 6) [.ref (G.1 + off 2), .ref (G.1 + off f), .int x2] σ rV (R 5 f x2 σ)) : ∀ (n : Nat) (x2 : Int32) (x3 : Int32) (σ : Mem), JO G mX5_readBoth (d + 7) 8 [some (.ref (G.1 + off 2)), some (.ref (G.1 + off f)), some (.int x2), some (.int x3)] [] σ rV (X5_readBoth_8 R f n x2 x3 σ) := by
  intro n
  induction n with
  | zero =>
    intro x2 x3 σ
    exact JO_none
  | succ n ih =>
    intro x2 x3 σ
    rw [X5_readBoth_8]
    refine JO_iload_n (pc := 8) dX5_readBoth_8 rfl ?_
    refine JO_sipush (pc := 9) (a := 1600) dX5_readBoth_9 (by decide) ?_
    refine JO_icmp_ge (pc := 12) (tgt := 49) dX5_readBoth_12 (by decide) ?_ ?_
    · exact JO_retv (pc := 49) rfl dX5_readBoth_49
    · refine JO_aload_n (pc := 15) dX5_readBoth_15 rfl ?_
      refine JO_bipush (pc := 16) (a := 114) dX5_readBoth_16 (by decide) ?_
      refine JO_callVi (pc := 18) [.int 114] lk_X5_87 rfl (ci := 5) rfl shX5 (w_X5_isAt G (d + 5) 114 σ) rfl rfl (Nat.le_of_ble_eq_true rfl) dX5_readBoth_18 (fun r3 => ?_)
      refine JO_if_eq (pc := 21) (tgt := 49) dX5_readBoth_21 (by decide) ?_ ?_
      · exact JO_retv (pc := 49) rfl dX5_readBoth_49
      · refine JO_aload_n (pc := 24) dX5_readBoth_24 rfl ?_
        refine JO_getR (pc := 25) fl_X5_12 rfl fkX5_tokens dX5_readBoth_25 ?_
        refine JO_callVv (pc := 28) [] lk_X5_91 rfl (ci := 9) rfl shX9 (w_X9_next G (d + 1)  r3.2) rfl rfl (Nat.le_of_ble_eq_true rfl) dX5_readBoth_28 (fun σ4 => ?_)
        refine JO_aload_n (pc := 31) dX5_readBoth_31 rfl ?_
        refine JO_aload_n (pc := 32) dX5_readBoth_32 rfl ?_
        refine JO_iload_n (pc := 33) dX5_readBoth_33 rfl ?_
        refine JO_callVv (pc := 34) [.ref (G.1 + off f), .int x2] lk_X5_176 rfl (ci := 5) rfl shX5 ((hR f hf x2 σ4).2.2.1) rfl rfl (Nat.le_of_ble_eq_true rfl) dX5_readBoth_34 (fun σ5 => ?_)
        refine JO_aload_n (pc := 37) dX5_readBoth_37 rfl ?_
        refine JO_bipush (pc := 38) (a := 114) dX5_readBoth_38 (by decide) ?_
        refine JO_callVv (pc := 40) [.int 114] lk_X5_173 rfl (ci := 2) rfl (shForm hf) (w_X2_addOperation G (d + 6) f hf 114 σ5) rfl rfl (Nat.le_of_ble_eq_true rfl) dX5_readBoth_40 (fun σ6 => ?_)
        refine JO_inc (pc := 43) (b := 1) (L' := fun v7 => [some (.ref (G.1 + off 2)), some (.ref (G.1 + off f)), some (.int x2), some (.int v7)]) dX5_readBoth_43 rfl rfl (by decide) rfl (fun _ => rfl) (fun v7 => ?_)
        refine JO_goto (pc := 46) (tgt := 8) dX5_readBoth_46 (by decide) ?_
        exact JO_sub (l_sub_some (l_sub_some (l_sub_some (l_sub_some (l_sub_nil))))) (ih x2 v7 σ6)
set_option maxHeartbeats 4000000 in
set_option maxRecDepth 100000 in
theorem w_X5_readBoth (G : JG) (d : Nat) (R : (Nat → Nat → Int32 → Mem → Option Mem)) (f : Nat) (hf : isForm f) (hR : ∀ (f : Nat) (hf : isForm f) (x2 : Int32) (σ : Mem), JS G mX5_readWhole (d + 6) [.ref (G.1 + off 2), .ref (G.1 + off f), .int x2] σ rV (R 0 f x2 σ) ∧ JS G mX5_readBoth (d + 6) [.ref (G.1 + off 2), .ref (G.1 + off f), .int x2] σ rV (R 1 f x2 σ) ∧ JS G mX5_readOne (d + 6) [.ref (G.1 + off 2), .ref (G.1 + off f), .int x2] σ rV (R 2 f x2 σ) ∧ JS G mX5_readSum (d + 6) [.ref (G.1 + off 2), .ref (G.1 + off f), .int x2] σ rV (R 3 f x2 σ) ∧ JS G mX5_readTerm (d + 6) [.ref (G.1 + off 2), .ref (G.1 + off f), .int x2] σ rV (R 4 f x2 σ) ∧ JS G mX5_readUnit (d + 6) [.ref (G.1 + off 2), .ref (G.1 + off f), .int x2] σ rV (R 5 f x2 σ)) (x2 : Int32) (σ : Mem) : JS G mX5_readBoth (d + 7) [.ref (G.1 + off 2), .ref (G.1 + off f), .int x2] σ rV (X5_readBoth R f x2 σ) := by
  refine JS_of 1 (by decide +kernel) (Nat.le_of_ble_eq_true rfl) (L := [some (.ref (G.1 + off 2)), some (.ref (G.1 + off f)), some (.int x2), none]) rfl ?_
  unfold X5_readBoth
  refine JO_aload_n (pc := 0) dX5_readBoth_0 rfl ?_
  refine JO_aload_n (pc := 1) dX5_readBoth_1 rfl ?_
  refine JO_iload_n (pc := 2) dX5_readBoth_2 rfl ?_
  refine JO_callVv (pc := 3) [.ref (G.1 + off f), .int x2] lk_X5_176 rfl (ci := 5) rfl shX5 ((hR f hf x2 σ).2.2.1) rfl rfl (Nat.le_of_ble_eq_true rfl) dX5_readBoth_3 (fun σ1 => ?_)
  refine JO_iconst (pc := 6) (a := 0) dX5_readBoth_6 (by decide) ?_
  refine JO_nm (fun v2 => ?_)
  refine JO_istore_n (pc := 7) (L' := [some (.ref (G.1 + off 2)), some (.ref (G.1 + off f)), some (.int x2), some (.int v2)]) dX5_readBoth_7 rfl rfl rfl ?_
  exact JO_sub (l_sub_some (l_sub_some (l_sub_some (l_sub_some (l_sub_nil))))) (w_X5_readBoth_8 G d R f hf hR fu x2 v2 σ1)
set_option maxHeartbeats 4000000 in
set_option maxRecDepth 100000 in
theorem w_X5_readWhole_8 (G : JG) (d : Nat) (R : (Nat → Nat → Int32 → Mem → Option Mem)) (f : Nat) (hf : isForm f) (hR : ∀ (f : Nat) (hf : isForm f) (x2 : Int32) (σ : Mem), JS G mX5_readWhole (d + 6) [.ref (G.1 + off 2), .ref (G.1 + off f), .int x2] σ rV (R 0 f x2 σ) ∧ JS G mX5_readBoth (d + 6) [.ref (G.1 + off 2), .ref (G.1 + off f), .int x2] σ rV (R 1 f x2 σ) ∧ JS G mX5_readOne (d + 6) [.ref (G.1 + off 2), .ref (G.1 + off f), .int x2] σ rV (R 2 f x2 σ) ∧ JS G mX5_readSum (d + 6) [.ref (G.1 + off 2), .ref (G.1 + off f), .int x2] σ rV (R 3 f x2 σ) ∧ JS G mX5_readTerm (d + 6) [.ref (G.1 + off 2), .ref (G.1 + off f), .int x2] σ rV (R 4 f x2 σ) ∧ JS G mX5_readUnit (d + 6) [.ref (G.1 + off 2), .ref (G.1 + off f), .int x2] σ rV (R 5 f x2 σ)) : ∀ (n : Nat) (x2 : Int32) (x3 : Int32) (σ : Mem), JO G mX5_readWhole (d + 7) 8 [some (.ref (G.1 + off 2)), some (.ref (G.1 + off f)), some (.int x2), some (.int x3)] [] σ rV (X5_readWhole_8 R f n x2 x3 σ) := by
  intro n
  induction n with
  | zero =>
    intro x2 x3 σ
    exact JO_none
  | succ n ih =>
    intro x2 x3 σ
    rw [X5_readWhole_8]
    refine JO_iload_n (pc := 8) dX5_readWhole_8 rfl ?_
    refine JO_sipush (pc := 9) (a := 1600) dX5_readWhole_9 (by decide) ?_
    refine JO_icmp_ge (pc := 12) (tgt := 49) dX5_readWhole_12 (by decide) ?_ ?_
    · exact JO_retv (pc := 49) rfl dX5_readWhole_49
    · refine JO_aload_n (pc := 15) dX5_readWhole_15 rfl ?_
      refine JO_bipush (pc := 16) (a := 113) dX5_readWhole_16 (by decide) ?_
      refine JO_callVi (pc := 18) [.int 113] lk_X5_87 rfl (ci := 5) rfl shX5 (w_X5_isAt G (d + 5) 113 σ) rfl rfl (Nat.le_of_ble_eq_true rfl) dX5_readWhole_18 (fun r3 => ?_)
      refine JO_if_eq (pc := 21) (tgt := 49) dX5_readWhole_21 (by decide) ?_ ?_
      · exact JO_retv (pc := 49) rfl dX5_readWhole_49
      · refine JO_aload_n (pc := 24) dX5_readWhole_24 rfl ?_
        refine JO_getR (pc := 25) fl_X5_12 rfl fkX5_tokens dX5_readWhole_25 ?_
        refine JO_callVv (pc := 28) [] lk_X5_91 rfl (ci := 9) rfl shX9 (w_X9_next G (d + 1)  r3.2) rfl rfl (Nat.le_of_ble_eq_true rfl) dX5_readWhole_28 (fun σ4 => ?_)
        refine JO_aload_n (pc := 31) dX5_readWhole_31 rfl ?_
        refine JO_aload_n (pc := 32) dX5_readWhole_32 rfl ?_
        refine JO_iload_n (pc := 33) dX5_readWhole_33 rfl ?_
        refine JO_callVv (pc := 34) [.ref (G.1 + off f), .int x2] lk_X5_170 rfl (ci := 5) rfl shX5 ((hR f hf x2 σ4).2.1) rfl rfl (Nat.le_of_ble_eq_true rfl) dX5_readWhole_34 (fun σ5 => ?_)
        refine JO_aload_n (pc := 37) dX5_readWhole_37 rfl ?_
        refine JO_bipush (pc := 38) (a := 113) dX5_readWhole_38 (by decide) ?_
        refine JO_callVv (pc := 40) [.int 113] lk_X5_173 rfl (ci := 2) rfl (shForm hf) (w_X2_addOperation G (d + 6) f hf 113 σ5) rfl rfl (Nat.le_of_ble_eq_true rfl) dX5_readWhole_40 (fun σ6 => ?_)
        refine JO_inc (pc := 43) (b := 1) (L' := fun v7 => [some (.ref (G.1 + off 2)), some (.ref (G.1 + off f)), some (.int x2), some (.int v7)]) dX5_readWhole_43 rfl rfl (by decide) rfl (fun _ => rfl) (fun v7 => ?_)
        refine JO_goto (pc := 46) (tgt := 8) dX5_readWhole_46 (by decide) ?_
        exact JO_sub (l_sub_some (l_sub_some (l_sub_some (l_sub_some (l_sub_nil))))) (ih x2 v7 σ6)
set_option maxHeartbeats 4000000 in
set_option maxRecDepth 100000 in
theorem w_X5_readWhole (G : JG) (d : Nat) (R : (Nat → Nat → Int32 → Mem → Option Mem)) (f : Nat) (hf : isForm f) (hR : ∀ (f : Nat) (hf : isForm f) (x2 : Int32) (σ : Mem), JS G mX5_readWhole (d + 6) [.ref (G.1 + off 2), .ref (G.1 + off f), .int x2] σ rV (R 0 f x2 σ) ∧ JS G mX5_readBoth (d + 6) [.ref (G.1 + off 2), .ref (G.1 + off f), .int x2] σ rV (R 1 f x2 σ) ∧ JS G mX5_readOne (d + 6) [.ref (G.1 + off 2), .ref (G.1 + off f), .int x2] σ rV (R 2 f x2 σ) ∧ JS G mX5_readSum (d + 6) [.ref (G.1 + off 2), .ref (G.1 + off f), .int x2] σ rV (R 3 f x2 σ) ∧ JS G mX5_readTerm (d + 6) [.ref (G.1 + off 2), .ref (G.1 + off f), .int x2] σ rV (R 4 f x2 σ) ∧ JS G mX5_readUnit (d + 6) [.ref (G.1 + off 2), .ref (G.1 + off f), .int x2] σ rV (R 5 f x2 σ)) (x2 : Int32) (σ : Mem) : JS G mX5_readWhole (d + 7) [.ref (G.1 + off 2), .ref (G.1 + off f), .int x2] σ rV (X5_readWhole R f x2 σ) := by
  refine JS_of 1 (by decide +kernel) (Nat.le_of_ble_eq_true rfl) (L := [some (.ref (G.1 + off 2)), some (.ref (G.1 + off f)), some (.int x2), none]) rfl ?_
  unfold X5_readWhole
  refine JO_aload_n (pc := 0) dX5_readWhole_0 rfl ?_
  refine JO_aload_n (pc := 1) dX5_readWhole_1 rfl ?_
  refine JO_iload_n (pc := 2) dX5_readWhole_2 rfl ?_
  refine JO_callVv (pc := 3) [.ref (G.1 + off f), .int x2] lk_X5_170 rfl (ci := 5) rfl shX5 ((hR f hf x2 σ).2.1) rfl rfl (Nat.le_of_ble_eq_true rfl) dX5_readWhole_3 (fun σ1 => ?_)
  refine JO_iconst (pc := 6) (a := 0) dX5_readWhole_6 (by decide) ?_
  refine JO_nm (fun v2 => ?_)
  refine JO_istore_n (pc := 7) (L' := [some (.ref (G.1 + off 2)), some (.ref (G.1 + off f)), some (.int x2), some (.int v2)]) dX5_readWhole_7 rfl rfl rfl ?_
  exact JO_sub (l_sub_some (l_sub_some (l_sub_some (l_sub_some (l_sub_nil))))) (w_X5_readWhole_8 G d R f hf hR fu x2 v2 σ1)
set_option maxHeartbeats 4000000 in
set_option maxRecDepth 100000 in
theorem w_rd_all (G : JG) : ∀ (e d f : Nat) (hf : isForm f) (x2 : Int32) (σ : Mem), JS G mX5_readWhole (d + e + 7) [.ref (G.1 + off 2), .ref (G.1 + off f), .int x2] σ rV (C_rd e 0 f x2 σ) ∧ JS G mX5_readBoth (d + e + 7) [.ref (G.1 + off 2), .ref (G.1 + off f), .int x2] σ rV (C_rd e 1 f x2 σ) ∧ JS G mX5_readOne (d + e + 7) [.ref (G.1 + off 2), .ref (G.1 + off f), .int x2] σ rV (C_rd e 2 f x2 σ) ∧ JS G mX5_readSum (d + e + 7) [.ref (G.1 + off 2), .ref (G.1 + off f), .int x2] σ rV (C_rd e 3 f x2 σ) ∧ JS G mX5_readTerm (d + e + 7) [.ref (G.1 + off 2), .ref (G.1 + off f), .int x2] σ rV (C_rd e 4 f x2 σ) ∧ JS G mX5_readUnit (d + e + 7) [.ref (G.1 + off 2), .ref (G.1 + off f), .int x2] σ rV (C_rd e 5 f x2 σ) := by
  intro e
  induction e with
  | zero =>
    intro d f hf x2 σ
    refine ⟨?_, ?_, ?_, ?_, ?_, ?_⟩ <;> (intro v hv; cases hv)
  | succ e ih =>
    intro d f hf x2 σ
    have hR := fun (f : Nat) (hf : isForm f) (x2 : Int32) (σ : Mem) => ih d f hf x2 σ
    rw [show d + e + 7 = d + (e + 1) + 6 by omega] at hR
    exact ⟨w_X5_readWhole G (d + (e + 1)) (C_rd e) f hf hR x2 σ, w_X5_readBoth G (d + (e + 1)) (C_rd e) f hf hR x2 σ, w_X5_readOne G (d + (e + 1)) (C_rd e) f hf hR x2 σ, w_X5_readSum G (d + (e + 1)) (C_rd e) f hf hR x2 σ, w_X5_readTerm G (d + (e + 1)) (C_rd e) f hf hR x2 σ, w_X5_readUnit G (d + (e + 1)) (C_rd e) f hf hR x2 σ⟩
set_option maxHeartbeats 4000000 in
set_option maxRecDepth 100000 in
theorem w_X5_readWhole_all (G : JG) (d f : Nat) (hf : isForm f) (x2 : Int32) (σ : Mem) : JS G mX5_readWhole (d + 100 + 7) [.ref (G.1 + off 2), .ref (G.1 + off f), .int x2] σ rV (C_rd 100 0 f x2 σ) := (w_rd_all G 100 d f hf x2 σ).1
set_option maxHeartbeats 4000000 in
set_option maxRecDepth 100000 in
theorem w_X5_readBoth_all (G : JG) (d f : Nat) (hf : isForm f) (x2 : Int32) (σ : Mem) : JS G mX5_readBoth (d + 100 + 7) [.ref (G.1 + off 2), .ref (G.1 + off f), .int x2] σ rV (C_rd 100 1 f x2 σ) := (w_rd_all G 100 d f hf x2 σ).2.1
set_option maxHeartbeats 4000000 in
set_option maxRecDepth 100000 in
theorem w_X5_readOne_all (G : JG) (d f : Nat) (hf : isForm f) (x2 : Int32) (σ : Mem) : JS G mX5_readOne (d + 100 + 7) [.ref (G.1 + off 2), .ref (G.1 + off f), .int x2] σ rV (C_rd 100 2 f x2 σ) := (w_rd_all G 100 d f hf x2 σ).2.2.1
set_option maxHeartbeats 4000000 in
set_option maxRecDepth 100000 in
theorem w_X5_readSum_all (G : JG) (d f : Nat) (hf : isForm f) (x2 : Int32) (σ : Mem) : JS G mX5_readSum (d + 100 + 7) [.ref (G.1 + off 2), .ref (G.1 + off f), .int x2] σ rV (C_rd 100 3 f x2 σ) := (w_rd_all G 100 d f hf x2 σ).2.2.2.1
set_option maxHeartbeats 4000000 in
set_option maxRecDepth 100000 in
theorem w_X5_readTerm_all (G : JG) (d f : Nat) (hf : isForm f) (x2 : Int32) (σ : Mem) : JS G mX5_readTerm (d + 100 + 7) [.ref (G.1 + off 2), .ref (G.1 + off f), .int x2] σ rV (C_rd 100 4 f x2 σ) := (w_rd_all G 100 d f hf x2 σ).2.2.2.2.1
set_option maxHeartbeats 4000000 in
set_option maxRecDepth 100000 in
theorem w_X5_readUnit_all (G : JG) (d f : Nat) (hf : isForm f) (x2 : Int32) (σ : Mem) : JS G mX5_readUnit (d + 100 + 7) [.ref (G.1 + off 2), .ref (G.1 + off f), .int x2] σ rV (C_rd 100 5 f x2 σ) := (w_rd_all G 100 d f hf x2 σ).2.2.2.2.2

set_option maxHeartbeats 4000000 in
set_option maxRecDepth 100000 in
theorem w_X5_readFormula (G : JG) (d : Nat) (f : Nat) (hf : isForm f) (σ : Mem) : JS G mX5_readFormula (d + 108) [.ref (G.1 + off 2), .ref (G.1 + off f)] σ rV (X5_readFormula f σ) := by
  refine JS_of 0 (by decide +kernel) (Nat.le_of_ble_eq_true rfl) (L := [some (.ref (G.1 + off 2)), some (.ref (G.1 + off f))]) rfl ?_
  unfold X5_readFormula
  refine JO_aload_n (pc := 0) dX5_readFormula_0 rfl ?_
  refine JO_getI (pc := 1) fl_X5_157 rfl (fkForm_isTold hf) dX5_readFormula_1 ?_
  refine JO_if_eq (pc := 4) (tgt := 13) dX5_readFormula_4 (by decide) ?_ ?_
  · refine JO_aload_n (pc := 13) dX5_readFormula_13 rfl ?_
    refine JO_iconst (pc := 14) (a := 1) dX5_readFormula_14 (by decide) ?_
    refine JO_putZc (pc := 15) fl_X5_157 rfl (by decide) (fkForm_isTold hf) dX5_readFormula_15 (fun σ1 => ?_)
    refine JO_aload_n (pc := 18) dX5_readFormula_18 rfl ?_
    refine JO_iconst (pc := 19) (a := 0) dX5_readFormula_19 (by decide) ?_
    refine JO_putI (pc := 20) fl_X5_163 rfl fkX5_unitsOfFormula dX5_readFormula_20 (fun σ2 => ?_)
    refine JO_aload_n (pc := 23) dX5_readFormula_23 rfl ?_
    refine JO_getR (pc := 24) fl_X5_12 rfl fkX5_tokens dX5_readFormula_24 ?_
    refine JO_callVv (pc := 27) [] lk_X5_91 rfl (ci := 9) rfl shX9 (w_X9_next G (d + 102)  σ2) rfl rfl (Nat.le_of_ble_eq_true rfl) dX5_readFormula_27 (fun σ3 => ?_)
    refine JO_aload_n (pc := 30) dX5_readFormula_30 rfl ?_
    refine JO_aload_n (pc := 31) dX5_readFormula_31 rfl ?_
    refine JO_iconst (pc := 32) (a := 0) dX5_readFormula_32 (by decide) ?_
    refine JO_callVv (pc := 33) [.ref (G.1 + off f), .int 0] lk_X5_166 rfl (ci := 5) rfl shX5 (w_X5_readWhole_all G d f hf 0 σ3) rfl rfl (Nat.le_of_ble_eq_true rfl) dX5_readFormula_33 (fun σ4 => ?_)
    exact JO_retv (pc := 36) rfl dX5_readFormula_36
  · refine JO_aload_n (pc := 7) dX5_readFormula_7 rfl ?_
    refine JO_iconst (pc := 8) (a := 2) dX5_readFormula_8 (by decide) ?_
    refine JO_callVv (pc := 9) [.int 2] lk_X5_77 rfl (ci := 5) rfl shX5 (w_X5_fail G (d + 106) 2 σ) rfl rfl (Nat.le_of_ble_eq_true rfl) dX5_readFormula_9 (fun σ5 => ?_)
    exact JO_retv (pc := 12) rfl dX5_readFormula_12
set_option maxHeartbeats 4000000 in
set_option maxRecDepth 100000 in
theorem w_X5_read_134 (G : JG) (d : Nat) (k201 : Int32 → Mem → Option (Int32 × Mem)) (hk201 : ∀ (x3 : Int32) (σ : Mem), JO G mX5_read (d + 109) 201 [some (.ref (G.1 + off 2)), none, none, some (.int x3)] [] σ rI (k201 x3 σ)) : ∀ (x3 : Int32) (s0 : Int32) (σ : Mem), JO G mX5_read (d + 109) 134 [some (.ref (G.1 + off 2)), none, none, some (.int x3)] [.int s0, .ref (G.1 + off 2)] σ rI (X5_read_134 k201 x3 s0 σ) := by
  intro x3 s0 σ
  unfold X5_read_134
  refine JO_callVv (pc := 134) [.int s0] lk_X5_53 rfl (ci := 5) rfl shX5 (w_X5_readDay G (d + 101) s0 σ) rfl rfl (Nat.le_of_ble_eq_true rfl) dX5_read_134 (fun σ19 => ?_)
  refine JO_goto (pc := 137) (tgt := 201) dX5_read_137 (by decide) ?_
  exact JO_sub (l_sub_some (l_sub_none (l_sub_none (l_sub_some (l_sub_nil))))) (hk201 x3 σ19)
set_option maxHeartbeats 4000000 in
set_option maxRecDepth 100000 in
theorem w_X5_read_201 (G : JG) (d : Nat) (k28 : Int32 → Mem → Option (Int32 × Mem)) (hk28 : ∀ (x3 : Int32) (σ : Mem), JO G mX5_read (d + 109) 28 [some (.ref (G.1 + off 2)), none, none, some (.int x3)] [] σ rI (k28 x3 σ)) : ∀ (x3 : Int32) (σ : Mem), JO G mX5_read (d + 109) 201 [some (.ref (G.1 + off 2)), none, none, some (.int x3)] [] σ rI (X5_read_201 k28 x3 σ) := by
  intro x3 σ
  unfold X5_read_201
  refine JO_aload_n (pc := 201) dX5_read_201 rfl ?_
  refine JO_bipush (pc := 202) (a := 59) dX5_read_202 (by decide) ?_
  refine JO_callVv (pc := 204) [.int 59] lk_X5_81 rfl (ci := 5) rfl shX5 (w_X5_expect G (d + 102) 59 σ) rfl rfl (Nat.le_of_ble_eq_true rfl) dX5_read_204 (fun σ20 => ?_)
  refine JO_inc (pc := 207) (b := 1) (L' := fun v21 => [some (.ref (G.1 + off 2)), none, none, some (.int v21)]) dX5_read_207 rfl rfl (by decide) rfl (fun _ => rfl) (fun v21 => ?_)
  refine JO_goto (pc := 210) (tgt := 28) dX5_read_210 (by decide) ?_
  exact JO_sub (l_sub_some (l_sub_none (l_sub_none (l_sub_some (l_sub_nil))))) (hk28 v21 σ20)
set_option maxHeartbeats 4000000 in
set_option maxRecDepth 100000 in
theorem w_X5_read_213 (G : JG) (d : Nat) : ∀ (σ : Mem), JO G mX5_read (d + 109) 213 [some (.ref (G.1 + off 2)), none, none, none] [] σ rI (X5_read_213 σ) := by
  intro σ
  unfold X5_read_213
  refine JO_aload_n (pc := 213) dX5_read_213 rfl ?_
  refine JO_callVi (pc := 214) [] lk_X5_46 rfl (ci := 5) rfl shX5 (w_X5_isGood G (d + 108)  σ) rfl rfl (Nat.le_of_ble_eq_true rfl) dX5_read_214 (fun r18 => ?_)
  exact JO_retz (pc := 217) rfl dX5_read_217
set_option maxHeartbeats 4000000 in
set_option maxRecDepth 100000 in
theorem w_X5_read_28 (G : JG) (d : Nat) : ∀ (n : Nat) (x3 : Int32) (σ : Mem), JO G mX5_read (d + 109) 28 [some (.ref (G.1 + off 2)), none, none, some (.int x3)] [] σ rI (X5_read_28 n x3 σ) := by
  intro n
  induction n with
  | zero =>
    intro x3 σ
    exact JO_none
  | succ n ih =>
    intro x3 σ
    rw [X5_read_28]
    refine JO_iload_n (pc := 28) dX5_read_28 rfl ?_
    refine JO_sipush (pc := 29) (a := 1600) dX5_read_29 (by decide) ?_
    refine JO_icmp_ge (pc := 32) (tgt := 213) dX5_read_32 (by decide) ?_ ?_
    · exact JO_sub (l_sub_some (l_sub_none (l_sub_none (l_sub_none (l_sub_nil))))) (w_X5_read_213 G d  σ)
    · refine JO_aload_n (pc := 35) dX5_read_35 rfl ?_
      refine JO_callVi (pc := 36) [] lk_X5_46 rfl (ci := 5) rfl shX5 (w_X5_isGood G (d + 108)  σ) rfl rfl (Nat.le_of_ble_eq_true rfl) dX5_read_36 (fun r7 => ?_)
      refine JO_if_eq (pc := 39) (tgt := 213) dX5_read_39 (by decide) ?_ ?_
      · exact JO_sub (l_sub_some (l_sub_none (l_sub_none (l_sub_none (l_sub_nil))))) (w_X5_read_213 G d  r7.2)
      · refine JO_aload_n (pc := 42) dX5_read_42 rfl ?_
        refine JO_getR (pc := 43) fl_X5_12 rfl fkX5_tokens dX5_read_43 ?_
        refine JO_getI (pc := 46) fl_X5_50 rfl fkX9_kind dX5_read_46 ?_
        refine JO_if_eq (pc := 49) (tgt := 213) dX5_read_49 (by decide) ?_ ?_
        · exact JO_sub (l_sub_some (l_sub_none (l_sub_none (l_sub_none (l_sub_nil))))) (w_X5_read_213 G d  r7.2)
        · refine JO_aload_n (pc := 52) dX5_read_52 rfl ?_
          refine JO_getR (pc := 53) fl_X5_12 rfl fkX5_tokens dX5_read_53 ?_
          refine JO_getI (pc := 56) fl_X5_50 rfl fkX9_kind dX5_read_56 ?_
          refine JO_nm (fun v8 => ?_)
          refine JO_ite (fun hc100 => ?_) (fun hc100 => ?_)
          · rw [hc100]
            refine JO_tin (pc := 59) (tgt := 124) dX5_read_59 (by decide) (by decide) rfl (by decide) ?_
            refine JO_aload_n (pc := 124) dX5_read_124 rfl ?_
            refine JO_iload_n (pc := 125) dX5_read_125 rfl ?_
            refine JO_if_ne (pc := 126) (tgt := 133) dX5_read_126 (by decide) ?_ ?_
            · refine JO_iconst (pc := 133) (a := 0) dX5_read_133 (by decide) ?_
              exact JO_sub (l_sub_some (l_sub_none (l_sub_none (l_sub_some (l_sub_nil))))) (w_X5_read_134 G d _ (w_X5_read_201 G d _ (ih)) x3 0 r7.2)
            · refine JO_iconst (pc := 129) (a := 1) dX5_read_129 (by decide) ?_
              refine JO_goto (pc := 130) (tgt := 134) dX5_read_130 (by decide) ?_
              exact JO_sub (l_sub_some (l_sub_none (l_sub_none (l_sub_some (l_sub_nil))))) (w_X5_read_134 G d _ (w_X5_read_201 G d _ (ih)) x3 1 r7.2)
          refine JO_ite (fun hc101 => ?_) (fun hc101 => ?_)
          · rw [hc101]
            refine JO_tin (pc := 59) (tgt := 140) dX5_read_59 (by decide) (by decide) rfl (by decide) ?_
            refine JO_aload_n (pc := 140) dX5_read_140 rfl ?_
            refine JO_callVv (pc := 141) [] lk_X5_57 rfl (ci := 5) rfl shX5 (w_X5_readPerson G (d + 100)  r7.2) rfl rfl (Nat.le_of_ble_eq_true rfl) dX5_read_141 (fun σ9 => ?_)
            refine JO_goto (pc := 144) (tgt := 201) dX5_read_144 (by decide) ?_
            exact JO_sub (l_sub_some (l_sub_none (l_sub_none (l_sub_some (l_sub_nil))))) (w_X5_read_201 G d _ (ih) x3 σ9)
          refine JO_ite (fun hc109 => ?_) (fun hc109 => ?_)
          · rw [hc109]
            refine JO_tin (pc := 59) (tgt := 147) dX5_read_59 (by decide) (by decide) rfl (by decide) ?_
            refine JO_aload_n (pc := 147) dX5_read_147 rfl ?_
            refine JO_callVv (pc := 148) [] lk_X5_60 rfl (ci := 5) rfl shX5 (w_X5_readDebt G (d + 101)  r7.2) rfl rfl (Nat.le_of_ble_eq_true rfl) dX5_read_148 (fun σ10 => ?_)
            refine JO_goto (pc := 151) (tgt := 201) dX5_read_151 (by decide) ?_
            exact JO_sub (l_sub_some (l_sub_none (l_sub_none (l_sub_some (l_sub_nil))))) (w_X5_read_201 G d _ (ih) x3 σ10)
          refine JO_ite (fun hc110 => ?_) (fun hc110 => ?_)
          · rw [hc110]
            refine JO_tin (pc := 59) (tgt := 154) dX5_read_59 (by decide) (by decide) rfl (by decide) ?_
            refine JO_aload_n (pc := 154) dX5_read_154 rfl ?_
            refine JO_aload_n (pc := 155) dX5_read_155 rfl ?_
            refine JO_getT (pc := 156) fl_X5_28 rfl fkX5_town dX5_read_156 (fun q11 hq11 => ?_)
            refine JO_getR (pc := 159) fl_X5_63 rfl (fkTown_law hq11) dX5_read_159 ?_
            refine JO_callVv (pc := 162) [.ref (G.1 + off (q11 + 9))] lk_X5_67 rfl (ci := 5) rfl shX5 (w_X5_readFormula G d (q11 + 9) (inTown_law hq11) r7.2) rfl rfl (Nat.le_of_ble_eq_true rfl) dX5_read_162 (fun σ12 => ?_)
            refine JO_goto (pc := 165) (tgt := 201) dX5_read_165 (by decide) ?_
            exact JO_sub (l_sub_some (l_sub_none (l_sub_none (l_sub_some (l_sub_nil))))) (w_X5_read_201 G d _ (ih) x3 σ12)
          refine JO_ite (fun hc111 => ?_) (fun hc111 => ?_)
          · rw [hc111]
            refine JO_tin (pc := 59) (tgt := 168) dX5_read_59 (by decide) (by decide) rfl (by decide) ?_
            refine JO_aload_n (pc := 168) dX5_read_168 rfl ?_
            refine JO_aload_n (pc := 169) dX5_read_169 rfl ?_
            refine JO_getT (pc := 170) fl_X5_28 rfl fkX5_town dX5_read_170 (fun q13 hq13 => ?_)
            refine JO_getR (pc := 173) fl_X5_71 rfl (fkTown_interest hq13) dX5_read_173 ?_
            refine JO_callVv (pc := 176) [.ref (G.1 + off (q13 + 14))] lk_X5_67 rfl (ci := 5) rfl shX5 (w_X5_readFormula G d (q13 + 14) (inTown_interest hq13) r7.2) rfl rfl (Nat.le_of_ble_eq_true rfl) dX5_read_176 (fun σ14 => ?_)
            refine JO_goto (pc := 179) (tgt := 201) dX5_read_179 (by decide) ?_
            exact JO_sub (l_sub_some (l_sub_none (l_sub_none (l_sub_some (l_sub_nil))))) (w_X5_read_201 G d _ (ih) x3 σ14)
          refine JO_ite (fun hc112 => ?_) (fun hc112 => ?_)
          · rw [hc112]
            refine JO_tin (pc := 59) (tgt := 182) dX5_read_59 (by decide) (by decide) rfl (by decide) ?_
            refine JO_aload_n (pc := 182) dX5_read_182 rfl ?_
            refine JO_aload_n (pc := 183) dX5_read_183 rfl ?_
            refine JO_getT (pc := 184) fl_X5_28 rfl fkX5_town dX5_read_184 (fun q15 hq15 => ?_)
            refine JO_getR (pc := 187) fl_X5_74 rfl (fkTown_rain hq15) dX5_read_187 ?_
            refine JO_callVv (pc := 190) [.ref (G.1 + off (q15 + 19))] lk_X5_67 rfl (ci := 5) rfl shX5 (w_X5_readFormula G d (q15 + 19) (inTown_rain hq15) r7.2) rfl rfl (Nat.le_of_ble_eq_true rfl) dX5_read_190 (fun σ16 => ?_)
            refine JO_goto (pc := 193) (tgt := 201) dX5_read_193 (by decide) ?_
            exact JO_sub (l_sub_some (l_sub_none (l_sub_none (l_sub_some (l_sub_nil))))) (w_X5_read_201 G d _ (ih) x3 σ16)
          by_cases hc102 : v8 = 102
          · rw [hc102]
            refine JO_tin (pc := 59) (tgt := 196) dX5_read_59 (by decide) (by decide) rfl (by decide) ?_
            refine JO_aload_n (pc := 196) dX5_read_196 rfl ?_
            refine JO_iconst (pc := 197) (a := 2) dX5_read_197 (by decide) ?_
            refine JO_callVv (pc := 198) [.int 2] lk_X5_77 rfl (ci := 5) rfl shX5 (w_X5_fail G (d + 107) 2 r7.2) rfl rfl (Nat.le_of_ble_eq_true rfl) dX5_read_198 (fun σ17 => ?_)
            exact JO_sub (l_sub_some (l_sub_none (l_sub_none (l_sub_some (l_sub_nil))))) (w_X5_read_201 G d _ (ih) x3 σ17)
          by_cases hc103 : v8 = 103
          · rw [hc103]
            refine JO_tin (pc := 59) (tgt := 196) dX5_read_59 (by decide) (by decide) rfl (by decide) ?_
            refine JO_aload_n (pc := 196) dX5_read_196 rfl ?_
            refine JO_iconst (pc := 197) (a := 2) dX5_read_197 (by decide) ?_
            refine JO_callVv (pc := 198) [.int 2] lk_X5_77 rfl (ci := 5) rfl shX5 (w_X5_fail G (d + 107) 2 r7.2) rfl rfl (Nat.le_of_ble_eq_true rfl) dX5_read_198 (fun σ17 => ?_)
            exact JO_sub (l_sub_some (l_sub_none (l_sub_none (l_sub_some (l_sub_nil))))) (w_X5_read_201 G d _ (ih) x3 σ17)
          by_cases hc104 : v8 = 104
          · rw [hc104]
            refine JO_tin (pc := 59) (tgt := 196) dX5_read_59 (by decide) (by decide) rfl (by decide) ?_
            refine JO_aload_n (pc := 196) dX5_read_196 rfl ?_
            refine JO_iconst (pc := 197) (a := 2) dX5_read_197 (by decide) ?_
            refine JO_callVv (pc := 198) [.int 2] lk_X5_77 rfl (ci := 5) rfl shX5 (w_X5_fail G (d + 107) 2 r7.2) rfl rfl (Nat.le_of_ble_eq_true rfl) dX5_read_198 (fun σ17 => ?_)
            exact JO_sub (l_sub_some (l_sub_none (l_sub_none (l_sub_some (l_sub_nil))))) (w_X5_read_201 G d _ (ih) x3 σ17)
          by_cases hc105 : v8 = 105
          · rw [hc105]
            refine JO_tin (pc := 59) (tgt := 196) dX5_read_59 (by decide) (by decide) rfl (by decide) ?_
            refine JO_aload_n (pc := 196) dX5_read_196 rfl ?_
            refine JO_iconst (pc := 197) (a := 2) dX5_read_197 (by decide) ?_
            refine JO_callVv (pc := 198) [.int 2] lk_X5_77 rfl (ci := 5) rfl shX5 (w_X5_fail G (d + 107) 2 r7.2) rfl rfl (Nat.le_of_ble_eq_true rfl) dX5_read_198 (fun σ17 => ?_)
            exact JO_sub (l_sub_some (l_sub_none (l_sub_none (l_sub_some (l_sub_nil))))) (w_X5_read_201 G d _ (ih) x3 σ17)
          by_cases hc106 : v8 = 106
          · rw [hc106]
            refine JO_tin (pc := 59) (tgt := 196) dX5_read_59 (by decide) (by decide) rfl (by decide) ?_
            refine JO_aload_n (pc := 196) dX5_read_196 rfl ?_
            refine JO_iconst (pc := 197) (a := 2) dX5_read_197 (by decide) ?_
            refine JO_callVv (pc := 198) [.int 2] lk_X5_77 rfl (ci := 5) rfl shX5 (w_X5_fail G (d + 107) 2 r7.2) rfl rfl (Nat.le_of_ble_eq_true rfl) dX5_read_198 (fun σ17 => ?_)
            exact JO_sub (l_sub_some (l_sub_none (l_sub_none (l_sub_some (l_sub_nil))))) (w_X5_read_201 G d _ (ih) x3 σ17)
          by_cases hc107 : v8 = 107
          · rw [hc107]
            refine JO_tin (pc := 59) (tgt := 196) dX5_read_59 (by decide) (by decide) rfl (by decide) ?_
            refine JO_aload_n (pc := 196) dX5_read_196 rfl ?_
            refine JO_iconst (pc := 197) (a := 2) dX5_read_197 (by decide) ?_
            refine JO_callVv (pc := 198) [.int 2] lk_X5_77 rfl (ci := 5) rfl shX5 (w_X5_fail G (d + 107) 2 r7.2) rfl rfl (Nat.le_of_ble_eq_true rfl) dX5_read_198 (fun σ17 => ?_)
            exact JO_sub (l_sub_some (l_sub_none (l_sub_none (l_sub_some (l_sub_nil))))) (w_X5_read_201 G d _ (ih) x3 σ17)
          by_cases hc108 : v8 = 108
          · rw [hc108]
            refine JO_tin (pc := 59) (tgt := 196) dX5_read_59 (by decide) (by decide) rfl (by decide) ?_
            refine JO_aload_n (pc := 196) dX5_read_196 rfl ?_
            refine JO_iconst (pc := 197) (a := 2) dX5_read_197 (by decide) ?_
            refine JO_callVv (pc := 198) [.int 2] lk_X5_77 rfl (ci := 5) rfl shX5 (w_X5_fail G (d + 107) 2 r7.2) rfl rfl (Nat.le_of_ble_eq_true rfl) dX5_read_198 (fun σ17 => ?_)
            exact JO_sub (l_sub_some (l_sub_none (l_sub_none (l_sub_some (l_sub_nil))))) (w_X5_read_201 G d _ (ih) x3 σ17)
          have z100 : v8.toInt ≠ 100 := ne_toInt hc100
          have z101 : v8.toInt ≠ 101 := ne_toInt hc101
          have z102 : v8.toInt ≠ 102 := ne_toInt hc102
          have z103 : v8.toInt ≠ 103 := ne_toInt hc103
          have z104 : v8.toInt ≠ 104 := ne_toInt hc104
          have z105 : v8.toInt ≠ 105 := ne_toInt hc105
          have z106 : v8.toInt ≠ 106 := ne_toInt hc106
          have z107 : v8.toInt ≠ 107 := ne_toInt hc107
          have z108 : v8.toInt ≠ 108 := ne_toInt hc108
          have z109 : v8.toInt ≠ 109 := ne_toInt hc109
          have z110 : v8.toInt ≠ 110 := ne_toInt hc110
          have z111 : v8.toInt ≠ 111 := ne_toInt hc111
          have z112 : v8.toInt ≠ 112 := ne_toInt hc112
          refine JO_tout (pc := 59) (tgt := 196) dX5_read_59 (by omega) (by decide) ?_
          refine JO_aload_n (pc := 196) dX5_read_196 rfl ?_
          refine JO_iconst (pc := 197) (a := 2) dX5_read_197 (by decide) ?_
          refine JO_callVv (pc := 198) [.int 2] lk_X5_77 rfl (ci := 5) rfl shX5 (w_X5_fail G (d + 107) 2 r7.2) rfl rfl (Nat.le_of_ble_eq_true rfl) dX5_read_198 (fun σ17 => ?_)
          exact JO_sub (l_sub_some (l_sub_none (l_sub_none (l_sub_some (l_sub_nil))))) (w_X5_read_201 G d _ (ih) x3 σ17)
set_option maxHeartbeats 4000000 in
set_option maxRecDepth 100000 in
theorem w_X5_read (G : JG) (d : Nat) (x2 : Int32) (σ : Mem) : JS G mX5_read (d + 109) [.ref (G.1 + off 2), .ref (G.1 + off 1), .int x2] σ rI (X5_read x2 σ) := by
  refine JS_of 1 (by decide +kernel) (Nat.le_of_ble_eq_true rfl) (L := [some (.ref (G.1 + off 2)), some (.ref (G.1 + off 1)), some (.int x2), none]) rfl ?_
  unfold X5_read
  refine JO_aload_n (pc := 0) dX5_read_0 rfl ?_
  refine JO_iconst (pc := 1) (a := 0) dX5_read_1 (by decide) ?_
  refine JO_putI (pc := 2) fl_X5_36 rfl fkX5_fault dX5_read_2 (fun σ1 => ?_)
  refine JO_aload_n (pc := 5) dX5_read_5 rfl ?_
  refine JO_iconst (pc := 6) (a := (-1)) dX5_read_6 (by decide) ?_
  refine JO_putI (pc := 7) fl_X5_32 rfl fkX5_faultPlace dX5_read_7 (fun σ2 => ?_)
  refine JO_aload_n (pc := 10) dX5_read_10 rfl ?_
  refine JO_getT (pc := 11) fl_X5_28 rfl fkX5_town dX5_read_11 (fun q3 hq3 => ?_)
  refine JO_callVv (pc := 14) [] lk_X5_39 rfl (ci := 10) rfl (shTown hq3) (w_X10_forget G (d + 107) q3 hq3 σ2) rfl rfl (Nat.le_of_ble_eq_true rfl) dX5_read_14 (fun σ4 => ?_)
  refine JO_aload_n (pc := 17) dX5_read_17 rfl ?_
  refine JO_getR (pc := 18) fl_X5_12 rfl fkX5_tokens dX5_read_18 ?_
  refine JO_aload_n (pc := 21) dX5_read_21 rfl ?_
  refine JO_iload_n (pc := 22) dX5_read_22 rfl ?_
  refine JO_callVv (pc := 23) [.ref (G.1 + off 1), .int x2] lk_X5_42 rfl (ci := 9) rfl shX9 (w_X9_begin G (d + 102) x2 σ4) rfl rfl (Nat.le_of_ble_eq_true rfl) dX5_read_23 (fun σ5 => ?_)
  refine JO_iconst (pc := 26) (a := 0) dX5_read_26 (by decide) ?_
  refine JO_nm (fun v6 => ?_)
  refine JO_istore_n (pc := 27) (L' := [some (.ref (G.1 + off 2)), some (.ref (G.1 + off 1)), some (.int x2), some (.int v6)]) dX5_read_27 rfl rfl rfl ?_
  exact JO_sub (l_sub_some (l_sub_none (l_sub_none (l_sub_some (l_sub_nil))))) (w_X5_read_28 G d fu v6 σ5)
set_option maxHeartbeats 4000000 in
set_option maxRecDepth 100000 in
theorem w_X5_exchange (G : JG) (d : Nat) (t : Nat) (ht : isTown t) (σ : Mem) : JS G mX5_exchange d [.ref (G.1 + off 2), .ref (G.1 + off t)] σ (rR G) (X5_exchange t σ) := by
  refine JS_of 1 (by decide +kernel) (Nat.le_of_ble_eq_true rfl) (L := [some (.ref (G.1 + off 2)), some (.ref (G.1 + off t)), none]) rfl ?_
  unfold X5_exchange
  refine JO_aload_n (pc := 0) dX5_exchange_0 rfl ?_
  refine JO_getT (pc := 1) fl_X5_28 rfl fkX5_town dX5_exchange_1 (fun q1 hq1 => ?_)
  refine JO_astore_n (pc := 4) (L' := [some (.ref (G.1 + off 2)), some (.ref (G.1 + off t)), some (.ref (G.1 + off q1))]) dX5_exchange_4 rfl rfl rfl ?_
  refine JO_aload_n (pc := 5) dX5_exchange_5 rfl ?_
  refine JO_aload_n (pc := 6) dX5_exchange_6 rfl ?_
  refine JO_putM (pc := 7) fl_X5_28 rfl (by rcases ht with h9 | h9 <;> omega) (fun _ => rfl) (fun _ => rfl) fkX5_town dX5_exchange_7 (fun σ2 => ?_)
  refine JO_aload_n (pc := 10) dX5_exchange_10 rfl ?_
  exact JO_reta (pc := 11) rfl dX5_exchange_11
set_option maxHeartbeats 4000000 in
set_option maxRecDepth 100000 in
theorem w_X6_keep (G : JG) (d : Nat) (x1 : Int32) (x2 : Int32) (σ : Mem) : JS G mX6_keep (d + 1) [.ref (G.1 + off 111), .int x1, .int x2] σ rV (X6_keep x1 x2 σ) := by
  refine JS_of 0 (by decide +kernel) (Nat.le_of_ble_eq_true rfl) (L := [some (.ref (G.1 + off 111)), some (.int x1), some (.int x2)]) rfl ?_
  unfold X6_keep
  refine JO_aload_n (pc := 0) dX6_keep_0 rfl ?_
  refine JO_dup (pc := 1) dX6_keep_1 rfl ?_
  refine JO_getI (pc := 2) fl_X6_28 rfl fkX6_count dX6_keep_2 ?_
  refine JO_iconst (pc := 5) (a := 1) dX6_keep_5 (by decide) ?_
  refine JO_iadd (pc := 6) dX6_keep_6 ?_
  refine JO_putI (pc := 7) fl_X6_28 rfl fkX6_count dX6_keep_7 (fun σ1 => ?_)
  refine JO_iload_n (pc := 10) dX6_keep_10 rfl ?_
  refine JO_iload_n (pc := 11) dX6_keep_11 rfl ?_
  refine JO_imul (pc := 12) dX6_keep_12 ?_
  refine JO_aload_n (pc := 13) dX6_keep_13 rfl ?_
  refine JO_getI (pc := 14) fl_X6_25 rfl fkX6_frees dX6_keep_14 ?_
  refine JO_icmp_le (pc := 17) (tgt := 51) dX6_keep_17 (by decide) ?_ ?_
  · exact JO_retv (pc := 51) rfl dX6_keep_51
  · refine JO_aload_n (pc := 20) dX6_keep_20 rfl ?_
    refine JO_iload_n (pc := 21) dX6_keep_21 rfl ?_
    refine JO_iload_n (pc := 22) dX6_keep_22 rfl ?_
    refine JO_imul (pc := 23) dX6_keep_23 ?_
    refine JO_putI (pc := 24) fl_X6_25 rfl fkX6_frees dX6_keep_24 (fun σ2 => ?_)
    refine JO_aload_n (pc := 27) dX6_keep_27 rfl ?_
    refine JO_iload_n (pc := 28) dX6_keep_28 rfl ?_
    refine JO_putI (pc := 29) fl_X6_18 rfl fkX6_bestLeast dX6_keep_29 (fun σ3 => ?_)
    refine JO_aload_n (pc := 32) dX6_keep_32 rfl ?_
    refine JO_iload_n (pc := 33) dX6_keep_33 rfl ?_
    refine JO_putI (pc := 34) fl_X6_22 rfl fkX6_bestLength dX6_keep_34 (fun σ4 => ?_)
    refine JO_aload_n (pc := 37) dX6_keep_37 rfl ?_
    refine JO_getR (pc := 38) fl_X6_9 rfl fkX6_row dX6_keep_38 ?_
    refine JO_iconst (pc := 41) (a := 0) dX6_keep_41 (by decide) ?_
    refine JO_aload_n (pc := 42) dX6_keep_42 rfl ?_
    refine JO_getR (pc := 43) fl_X6_15 rfl fkX6_best dX6_keep_43 ?_
    refine JO_iconst (pc := 46) (a := 0) dX6_keep_46 (by decide) ?_
    refine JO_iload_n (pc := 47) dX6_keep_47 rfl ?_
    refine JO_copy (pc := 48) lc_X6_52 rfl akX6_row akX6_best (Nat.le_of_ble_eq_true rfl) dX6_keep_48 (fun σ5 => ?_)
    exact JO_retv (pc := 51) rfl dX6_keep_51
set_option maxHeartbeats 4000000 in
set_option maxRecDepth 100000 in
theorem w_X6_isInRow_2 (G : JG) (d : Nat) : ∀ (n : Nat) (x1 : Int32) (x2 : Int32) (x3 : Int32) (σ : Mem), JO G mX6_isInRow d 2 [some (.ref (G.1 + off 111)), some (.int x1), some (.int x2), some (.int x3)] [] σ rI (X6_isInRow_2 n x1 x2 x3 σ) := by
  intro n
  induction n with
  | zero =>
    intro x1 x2 x3 σ
    exact JO_none
  | succ n ih =>
    intro x1 x2 x3 σ
    rw [X6_isInRow_2]
    refine JO_iload_n (pc := 2) dX6_isInRow_2 rfl ?_
    refine JO_iload_n (pc := 3) dX6_isInRow_3 rfl ?_
    refine JO_icmp_ge (pc := 4) (tgt := 25) dX6_isInRow_4 (by decide) ?_ ?_
    · refine JO_iconst (pc := 25) (a := 0) dX6_isInRow_25 (by decide) ?_
      exact JO_retzc (pc := 26) (by decide) rfl dX6_isInRow_26
    · refine JO_aload_n (pc := 7) dX6_isInRow_7 rfl ?_
      refine JO_getR (pc := 8) fl_X6_9 rfl fkX6_row dX6_isInRow_8 ?_
      refine JO_iload_n (pc := 11) dX6_isInRow_11 rfl ?_
      refine JO_iald (pc := 12) akX6_row dX6_isInRow_12 ?_
      refine JO_iload_n (pc := 13) dX6_isInRow_13 rfl ?_
      refine JO_icmp_ne (pc := 14) (tgt := 19) dX6_isInRow_14 (by decide) ?_ ?_
      · refine JO_inc (pc := 19) (b := 1) (L' := fun v2 => [some (.ref (G.1 + off 111)), some (.int x1), some (.int x2), some (.int v2)]) dX6_isInRow_19 rfl rfl (by decide) rfl (fun _ => rfl) (fun v2 => ?_)
        refine JO_goto (pc := 22) (tgt := 2) dX6_isInRow_22 (by decide) ?_
        exact JO_sub (l_sub_some (l_sub_some (l_sub_some (l_sub_some (l_sub_nil))))) (ih x1 x2 v2 σ)
      · refine JO_iconst (pc := 17) (a := 1) dX6_isInRow_17 (by decide) ?_
        exact JO_retzc (pc := 18) (by decide) rfl dX6_isInRow_18
set_option maxHeartbeats 4000000 in
set_option maxRecDepth 100000 in
theorem w_X6_isInRow (G : JG) (d : Nat) (x1 : Int32) (x2 : Int32) (σ : Mem) : JS G mX6_isInRow d [.ref (G.1 + off 111), .int x1, .int x2] σ rI (X6_isInRow x1 x2 σ) := by
  refine JS_of 1 (by decide +kernel) (Nat.le_of_ble_eq_true rfl) (L := [some (.ref (G.1 + off 111)), some (.int x1), some (.int x2), none]) rfl ?_
  unfold X6_isInRow
  refine JO_iconst (pc := 0) (a := 0) dX6_isInRow_0 (by decide) ?_
  refine JO_nm (fun v1 => ?_)
  refine JO_istore_n (pc := 1) (L' := [some (.ref (G.1 + off 111)), some (.int x1), some (.int x2), some (.int v1)]) dX6_isInRow_1 rfl rfl rfl ?_
  exact JO_sub (l_sub_some (l_sub_some (l_sub_some (l_sub_some (l_sub_nil))))) (w_X6_isInRow_2 G d fu x1 x2 v1 σ)
set_option maxHeartbeats 4000000 in
set_option maxRecDepth 100000 in
theorem w_X6_goOn_115 (G : JG) (d : Nat) (R : (Nat → Nat → Int32 → Int32 → Int32 → Mem → Option Mem)) (a : Nat) (al : Nat) (ha : akind SH a = some (0, al)) (hR : ∀ (a al : Nat) (ha : akind SH a = some (0, al)) (x1 x3 x4 : Int32) (σ : Mem), JS G mX6_goOn (d + 1) [.ref (G.1 + off 111), .int x1, .ref (G.1 + off a), .int x3, .int x4] σ rV (R a al x1 x3 x4 σ)) (k59 : Int32 → Int32 → Int32 → Int32 → Int32 → Mem → Option Mem) (hk59 : ∀ (x1 : Int32) (x3 : Int32) (x4 : Int32) (x5 : Int32) (x7 : Int32) (σ : Mem), JO G mX6_goOn (d + 2) 59 [some (.ref (G.1 + off 111)), some (.int x1), some (.ref (G.1 + off a)), some (.int x3), some (.int x4), some (.int x5), none, some (.int x7), none] [] σ rV (k59 x1 x3 x4 x5 x7 σ)) : ∀ (x1 : Int32) (x3 : Int32) (x4 : Int32) (x5 : Int32) (x7 : Int32) (σ : Mem), JO G mX6_goOn (d + 2) 115 [some (.ref (G.1 + off 111)), some (.int x1), some (.ref (G.1 + off a)), some (.int x3), some (.int x4), some (.int x5), none, some (.int x7), none] [] σ rV (X6_goOn_115 R a al k59 x1 x3 x4 x5 x7 σ) := by
  intro x1 x3 x4 x5 x7 σ
  unfold X6_goOn_115
  refine JO_inc (pc := 115) (b := 1) (L' := fun v11 => [some (.ref (G.1 + off 111)), some (.int x1), some (.ref (G.1 + off a)), some (.int x3), some (.int x4), some (.int x5), none, some (.int v11), none]) dX6_goOn_115 rfl rfl (by decide) rfl (fun _ => rfl) (fun v11 => ?_)
  refine JO_goto (pc := 118) (tgt := 59) dX6_goOn_118 (by decide) ?_
  exact JO_sub (l_sub_some (l_sub_some (l_sub_some (l_sub_some (l_sub_some (l_sub_some (l_sub_none (l_sub_some (l_sub_none (l_sub_nil)))))))))) (hk59 x1 x3 x4 x5 v11 σ)
set_option maxHeartbeats 4000000 in
set_option maxRecDepth 100000 in
theorem w_X6_goOn_59 (G : JG) (d : Nat) (R : (Nat → Nat → Int32 → Int32 → Int32 → Mem → Option Mem)) (a : Nat) (al : Nat) (ha : akind SH a = some (0, al)) (hR : ∀ (a al : Nat) (ha : akind SH a = some (0, al)) (x1 x3 x4 : Int32) (σ : Mem), JS G mX6_goOn (d + 1) [.ref (G.1 + off 111), .int x1, .ref (G.1 + off a), .int x3, .int x4] σ rV (R a al x1 x3 x4 σ)) : ∀ (n : Nat) (x1 : Int32) (x3 : Int32) (x4 : Int32) (x5 : Int32) (x7 : Int32) (σ : Mem), JO G mX6_goOn (d + 2) 59 [some (.ref (G.1 + off 111)), some (.int x1), some (.ref (G.1 + off a)), some (.int x3), some (.int x4), some (.int x5), none, some (.int x7), none] [] σ rV (X6_goOn_59 R a al n x1 x3 x4 x5 x7 σ) := by
  intro n
  induction n with
  | zero =>
    intro x1 x3 x4 x5 x7 σ
    exact JO_none
  | succ n ih =>
    intro x1 x3 x4 x5 x7 σ
    rw [X6_goOn_59]
    refine JO_iload (pc := 59) dX6_goOn_59 rfl ?_
    refine JO_iload_n (pc := 61) dX6_goOn_61 rfl ?_
    refine JO_icmp_ge (pc := 62) (tgt := 121) dX6_goOn_62 (by decide) ?_ ?_
    · exact JO_retv (pc := 121) rfl dX6_goOn_121
    · refine JO_aload_n (pc := 65) dX6_goOn_65 rfl ?_
      refine JO_iload (pc := 66) dX6_goOn_66 rfl ?_
      refine JO_iload (pc := 68) dX6_goOn_68 rfl ?_
      refine JO_callSNi (pc := 70) [.int x5, .int x7] lk_X6_35 rfl (w_X11_cell G (d + 1) x5 x7 σ) rfl rfl (Nat.le_of_ble_eq_true rfl) dX6_goOn_70 (fun r6 => ?_)
      refine JO_iald (pc := 73) ha dX6_goOn_73 ?_
      refine JO_nm (fun v7 => ?_)
      refine JO_istore (pc := 74) (L' := [some (.ref (G.1 + off 111)), some (.int x1), some (.ref (G.1 + off a)), some (.int x3), some (.int x4), some (.int x5), none, some (.int x7), some (.int v7)]) dX6_goOn_74 rfl rfl rfl ?_
      refine JO_iload (pc := 76) dX6_goOn_76 rfl ?_
      refine JO_if_le (pc := 78) (tgt := 115) dX6_goOn_78 (by decide) ?_ ?_
      · exact JO_sub (l_sub_some (l_sub_some (l_sub_some (l_sub_some (l_sub_some (l_sub_some (l_sub_none (l_sub_some (l_sub_none (l_sub_nil)))))))))) (w_X6_goOn_115 G d R a al ha hR _ (ih) x1 x3 x4 x5 x7 r6.2)
      · refine JO_aload_n (pc := 81) dX6_goOn_81 rfl ?_
        refine JO_iload (pc := 82) dX6_goOn_82 rfl ?_
        refine JO_iload_n (pc := 84) dX6_goOn_84 rfl ?_
        refine JO_callVi (pc := 85) [.int x7, .int x3] lk_X6_48 rfl (ci := 6) rfl shX6 (w_X6_isInRow G (d + 1) x7 x3 r6.2) rfl rfl (Nat.le_of_ble_eq_true rfl) dX6_goOn_85 (fun r8 => ?_)
        refine JO_if_ne (pc := 88) (tgt := 115) dX6_goOn_88 (by decide) ?_ ?_
        · exact JO_sub (l_sub_some (l_sub_some (l_sub_some (l_sub_some (l_sub_some (l_sub_some (l_sub_none (l_sub_some (l_sub_none (l_sub_nil)))))))))) (w_X6_goOn_115 G d R a al ha hR _ (ih) x1 x3 x4 x5 x7 r8.2)
        · refine JO_aload_n (pc := 91) dX6_goOn_91 rfl ?_
          refine JO_getR (pc := 92) fl_X6_9 rfl fkX6_row dX6_goOn_92 ?_
          refine JO_iload_n (pc := 95) dX6_goOn_95 rfl ?_
          refine JO_iload (pc := 96) dX6_goOn_96 rfl ?_
          refine JO_iast (pc := 98) akX6_row dX6_goOn_98 (fun σ9 => ?_)
          refine JO_aload_n (pc := 99) dX6_goOn_99 rfl ?_
          refine JO_iload_n (pc := 100) dX6_goOn_100 rfl ?_
          refine JO_aload_n (pc := 101) dX6_goOn_101 rfl ?_
          refine JO_iload_n (pc := 102) dX6_goOn_102 rfl ?_
          refine JO_iconst (pc := 103) (a := 1) dX6_goOn_103 (by decide) ?_
          refine JO_iadd (pc := 104) dX6_goOn_104 ?_
          refine JO_iload (pc := 105) dX6_goOn_105 rfl ?_
          refine JO_iload (pc := 107) dX6_goOn_107 rfl ?_
          refine JO_mmin (pc := 109) lm_X6_39 rfl (Nat.le_of_ble_eq_true rfl) dX6_goOn_109 ?_
          refine JO_callVv (pc := 112) [.int x1, .ref (G.1 + off a), .int (x3 + 1), .int (imin x4 v7)] lk_X6_31 rfl (ci := 6) rfl shX6 (hR a al ha x1 (x3 + 1) (imin x4 v7) σ9) rfl rfl (Nat.le_of_ble_eq_true rfl) dX6_goOn_112 (fun σ10 => ?_)
          exact JO_sub (l_sub_some (l_sub_some (l_sub_some (l_sub_some (l_sub_some (l_sub_some (l_sub_none (l_sub_some (l_sub_none (l_sub_nil)))))))))) (w_X6_goOn_115 G d R a al ha hR _ (ih) x1 x3 x4 x5 x7 σ10)
set_option maxHeartbeats 4000000 in
set_option maxRecDepth 100000 in
theorem w_X6_goOn_42 (G : JG) (d : Nat) (R : (Nat → Nat → Int32 → Int32 → Int32 → Mem → Option Mem)) (a : Nat) (al : Nat) (ha : akind SH a = some (0, al)) (hR : ∀ (a al : Nat) (ha : akind SH a = some (0, al)) (x1 x3 x4 : Int32) (σ : Mem), JS G mX6_goOn (d + 1) [.ref (G.1 + off 111), .int x1, .ref (G.1 + off a), .int x3, .int x4] σ rV (R a al x1 x3 x4 σ)) : ∀ (x1 : Int32) (x3 : Int32) (x4 : Int32) (x5 : Int32) (σ : Mem), JO G mX6_goOn (d + 2) 42 [some (.ref (G.1 + off 111)), some (.int x1), some (.ref (G.1 + off a)), some (.int x3), some (.int x4), some (.int x5), none, none, none] [] σ rV (X6_goOn_42 R a al x1 x3 x4 x5 σ) := by
  intro x1 x3 x4 x5 σ
  unfold X6_goOn_42
  refine JO_iload_n (pc := 42) dX6_goOn_42 rfl ?_
  refine JO_bipush (pc := 43) (a := 6) dX6_goOn_43 (by decide) ?_
  refine JO_icmp_lt (pc := 45) (tgt := 49) dX6_goOn_45 (by decide) ?_ ?_
  · refine JO_aload_n (pc := 49) dX6_goOn_49 rfl ?_
    refine JO_getR (pc := 50) fl_X6_9 rfl fkX6_row dX6_goOn_50 ?_
    refine JO_iconst (pc := 53) (a := 0) dX6_goOn_53 (by decide) ?_
    refine JO_ialdc (pc := 54) (k := 0) akX6_row (by decide) (by decide) dX6_goOn_54 ?_
    refine JO_iconst (pc := 55) (a := 1) dX6_goOn_55 (by decide) ?_
    refine JO_iadd (pc := 56) dX6_goOn_56 ?_
    refine JO_nm (fun v5 => ?_)
    refine JO_istore (pc := 57) (L' := [some (.ref (G.1 + off 111)), some (.int x1), some (.ref (G.1 + off a)), some (.int x3), some (.int x4), some (.int x5), none, some (.int v5), none]) dX6_goOn_57 rfl rfl rfl ?_
    exact JO_sub (l_sub_some (l_sub_some (l_sub_some (l_sub_some (l_sub_some (l_sub_some (l_sub_none (l_sub_some (l_sub_none (l_sub_nil)))))))))) (w_X6_goOn_59 G d R a al ha hR fu x1 x3 x4 x5 v5 σ)
  · exact JO_retv (pc := 48) rfl dX6_goOn_48
set_option maxHeartbeats 4000000 in
set_option maxRecDepth 100000 in
theorem w_X6_goOn (G : JG) (d : Nat) (R : (Nat → Nat → Int32 → Int32 → Int32 → Mem → Option Mem)) (a : Nat) (al : Nat) (ha : akind SH a = some (0, al)) (hR : ∀ (a al : Nat) (ha : akind SH a = some (0, al)) (x1 x3 x4 : Int32) (σ : Mem), JS G mX6_goOn (d + 1) [.ref (G.1 + off 111), .int x1, .ref (G.1 + off a), .int x3, .int x4] σ rV (R a al x1 x3 x4 σ)) (x1 : Int32) (x3 : Int32) (x4 : Int32) (σ : Mem) : JS G mX6_goOn (d + 2) [.ref (G.1 + off 111), .int x1, .ref (G.1 + off a), .int x3, .int x4] σ rV (X6_goOn R a al x1 x3 x4 σ) := by
  refine JS_of 4 (by decide +kernel) (Nat.le_of_ble_eq_true rfl) (L := [some (.ref (G.1 + off 111)), some (.int x1), some (.ref (G.1 + off a)), some (.int x3), some (.int x4), none, none, none, none]) rfl ?_
  unfold X6_goOn
  refine JO_aload_n (pc := 0) dX6_goOn_0 rfl ?_
  refine JO_getR (pc := 1) fl_X6_9 rfl fkX6_row dX6_goOn_1 ?_
  refine JO_iload_n (pc := 4) dX6_goOn_4 rfl ?_
  refine JO_iconst (pc := 5) (a := 1) dX6_goOn_5 (by decide) ?_
  refine JO_isub (pc := 6) dX6_goOn_6 ?_
  refine JO_iald (pc := 7) akX6_row dX6_goOn_7 ?_
  refine JO_nm (fun v1 => ?_)
  refine JO_istore (pc := 8) (L' := [some (.ref (G.1 + off 111)), some (.int x1), some (.ref (G.1 + off a)), some (.int x3), some (.int x4), some (.int v1), none, none, none]) dX6_goOn_8 rfl rfl rfl ?_
  refine JO_aload_n (pc := 10) dX6_goOn_10 rfl ?_
  refine JO_iload (pc := 11) dX6_goOn_11 rfl ?_
  refine JO_aload_n (pc := 13) dX6_goOn_13 rfl ?_
  refine JO_getR (pc := 14) fl_X6_9 rfl fkX6_row dX6_goOn_14 ?_
  refine JO_iconst (pc := 17) (a := 0) dX6_goOn_17 (by decide) ?_
  refine JO_ialdc (pc := 18) (k := 0) akX6_row (by decide) (by decide) dX6_goOn_18 ?_
  refine JO_callSNi (pc := 19) [.int v1, .int (σ.1 112 0)] lk_X6_35 rfl (w_X11_cell G (d + 1) v1 (σ.1 112 0) σ) rfl rfl (Nat.le_of_ble_eq_true rfl) dX6_goOn_19 (fun r2 => ?_)
  refine JO_iald (pc := 22) ha dX6_goOn_22 ?_
  refine JO_nm (fun v3 => ?_)
  refine JO_istore (pc := 23) (L' := [some (.ref (G.1 + off 111)), some (.int x1), some (.ref (G.1 + off a)), some (.int x3), some (.int x4), some (.int v1), some (.int v3), none, none]) dX6_goOn_23 rfl rfl rfl ?_
  refine JO_iload (pc := 25) dX6_goOn_25 rfl ?_
  refine JO_if_le (pc := 27) (tgt := 42) dX6_goOn_27 (by decide) ?_ ?_
  · exact JO_sub (l_sub_some (l_sub_some (l_sub_some (l_sub_some (l_sub_some (l_sub_some (l_sub_none (l_sub_none (l_sub_none (l_sub_nil)))))))))) (w_X6_goOn_42 G d R a al ha hR x1 x3 x4 v1 r2.2)
  · refine JO_aload_n (pc := 30) dX6_goOn_30 rfl ?_
    refine JO_iload_n (pc := 31) dX6_goOn_31 rfl ?_
    refine JO_iload (pc := 32) dX6_goOn_32 rfl ?_
    refine JO_iload (pc := 34) dX6_goOn_34 rfl ?_
    refine JO_mmin (pc := 36) lm_X6_39 rfl (Nat.le_of_ble_eq_true rfl) dX6_goOn_36 ?_
    refine JO_callVv (pc := 39) [.int x3, .int (imin x4 v3)] lk_X6_44 rfl (ci := 6) rfl shX6 (w_X6_keep G d x3 (imin x4 v3) r2.2) rfl rfl (Nat.le_of_ble_eq_true rfl) dX6_goOn_39 (fun σ4 => ?_)
    exact JO_sub (l_sub_some (l_sub_some (l_sub_some (l_sub_some (l_sub_some (l_sub_some (l_sub_none (l_sub_none (l_sub_none (l_sub_nil)))))))))) (w_X6_goOn_42 G d R a al ha hR x1 x3 x4 v1 σ4)
set_option maxHeartbeats 4000000 in
set_option maxRecDepth 100000 in
theorem w_X6_goOn_allE (G : JG) : ∀ (e d : Nat) (a : Nat) (al : Nat) (ha : akind SH a = some (0, al)) (x1 : Int32) (x3 : Int32) (x4 : Int32) (σ : Mem), JS G mX6_goOn (d + e + 2) [.ref (G.1 + off 111), .int x1, .ref (G.1 + off a), .int x3, .int x4] σ rV (C_goOn e a al x1 x3 x4 σ) := by
  intro e
  induction e with
  | zero =>
    intro d a al ha x1 x3 x4 σ v hv
    cases hv
  | succ e ih =>
    intro d a al ha x1 x3 x4 σ
    have hR := fun (a : Nat) (al : Nat) (ha : akind SH a = some (0, al)) (x1 : Int32) (x3 : Int32) (x4 : Int32) (σ : Mem) => ih d a al ha x1 x3 x4 σ
    rw [show d + e + 2 = d + (e + 1) + 1 by omega] at hR
    exact w_X6_goOn G (d + (e + 1)) (C_goOn e) a al ha hR x1 x3 x4 σ
set_option maxHeartbeats 4000000 in
set_option maxRecDepth 100000 in
theorem w_X6_goOn_all (G : JG) (d : Nat) (a : Nat) (al : Nat) (ha : akind SH a = some (0, al)) (x1 : Int32) (x3 : Int32) (x4 : Int32) (σ : Mem) : JS G mX6_goOn (d + 8 + 2) [.ref (G.1 + off 111), .int x1, .ref (G.1 + off a), .int x3, .int x4] σ rV (C_goOn 8 a al x1 x3 x4 σ) := w_X6_goOn_allE G 8 d a al ha x1 x3 x4 σ

set_option maxHeartbeats 4000000 in
set_option maxRecDepth 100000 in
theorem w_X6_find_22 (G : JG) (d : Nat) (a : Nat) (al : Nat) (ha : akind SH a = some (0, al)) : ∀ (n : Nat) (x1 : Int32) (x3 : Int32) (σ : Mem), JO G mX6_find (d + 11) 22 [some (.ref (G.1 + off 111)), some (.int x1), some (.ref (G.1 + off a)), some (.int x3)] [] σ rV (X6_find_22 a al n x1 x3 σ) := by
  intro n
  induction n with
  | zero =>
    intro x1 x3 σ
    exact JO_none
  | succ n ih =>
    intro x1 x3 σ
    rw [X6_find_22]
    refine JO_iload_n (pc := 22) dX6_find_22 rfl ?_
    refine JO_iload_n (pc := 23) dX6_find_23 rfl ?_
    refine JO_icmp_ge (pc := 24) (tgt := 50) dX6_find_24 (by decide) ?_ ?_
    · exact JO_retv (pc := 50) rfl dX6_find_50
    · refine JO_aload_n (pc := 27) dX6_find_27 rfl ?_
      refine JO_getR (pc := 28) fl_X6_9 rfl fkX6_row dX6_find_28 ?_
      refine JO_iconst (pc := 31) (a := 0) dX6_find_31 (by decide) ?_
      refine JO_iload_n (pc := 32) dX6_find_32 rfl ?_
      refine JO_iastc (pc := 33) (k := 0) akX6_row (by decide) (by decide) dX6_find_33 (fun σ6 => ?_)
      refine JO_aload_n (pc := 34) dX6_find_34 rfl ?_
      refine JO_iload_n (pc := 35) dX6_find_35 rfl ?_
      refine JO_aload_n (pc := 36) dX6_find_36 rfl ?_
      refine JO_iconst (pc := 37) (a := 1) dX6_find_37 (by decide) ?_
      refine JO_sipush (pc := 38) (a := 9999) dX6_find_38 (by decide) ?_
      refine JO_callVv (pc := 41) [.int x1, .ref (G.1 + off a), .int 1, .int 9999] lk_X6_31 rfl (ci := 6) rfl shX6 (w_X6_goOn_all G d a al ha x1 1 9999 σ6) rfl rfl (Nat.le_of_ble_eq_true rfl) dX6_find_41 (fun σ7 => ?_)
      refine JO_inc (pc := 44) (b := 1) (L' := fun v8 => [some (.ref (G.1 + off 111)), some (.int x1), some (.ref (G.1 + off a)), some (.int v8)]) dX6_find_44 rfl rfl (by decide) rfl (fun _ => rfl) (fun v8 => ?_)
      refine JO_goto (pc := 47) (tgt := 22) dX6_find_47 (by decide) ?_
      exact JO_sub (l_sub_some (l_sub_some (l_sub_some (l_sub_some (l_sub_nil))))) (ih x1 v8 σ7)
set_option maxHeartbeats 4000000 in
set_option maxRecDepth 100000 in
theorem w_X6_find (G : JG) (d : Nat) (a : Nat) (al : Nat) (ha : akind SH a = some (0, al)) (x1 : Int32) (σ : Mem) : JS G mX6_find (d + 11) [.ref (G.1 + off 111), .int x1, .ref (G.1 + off a)] σ rV (X6_find a al x1 σ) := by
  refine JS_of 1 (by decide +kernel) (Nat.le_of_ble_eq_true rfl) (L := [some (.ref (G.1 + off 111)), some (.int x1), some (.ref (G.1 + off a)), none]) rfl ?_
  unfold X6_find
  refine JO_aload_n (pc := 0) dX6_find_0 rfl ?_
  refine JO_iconst (pc := 1) (a := 0) dX6_find_1 (by decide) ?_
  refine JO_putI (pc := 2) fl_X6_18 rfl fkX6_bestLeast dX6_find_2 (fun σ1 => ?_)
  refine JO_aload_n (pc := 5) dX6_find_5 rfl ?_
  refine JO_iconst (pc := 6) (a := 0) dX6_find_6 (by decide) ?_
  refine JO_putI (pc := 7) fl_X6_22 rfl fkX6_bestLength dX6_find_7 (fun σ2 => ?_)
  refine JO_aload_n (pc := 10) dX6_find_10 rfl ?_
  refine JO_iconst (pc := 11) (a := 0) dX6_find_11 (by decide) ?_
  refine JO_putI (pc := 12) fl_X6_25 rfl fkX6_frees dX6_find_12 (fun σ3 => ?_)
  refine JO_aload_n (pc := 15) dX6_find_15 rfl ?_
  refine JO_iconst (pc := 16) (a := 0) dX6_find_16 (by decide) ?_
  refine JO_putI (pc := 17) fl_X6_28 rfl fkX6_count dX6_find_17 (fun σ4 => ?_)
  refine JO_iconst (pc := 20) (a := 0) dX6_find_20 (by decide) ?_
  refine JO_nm (fun v5 => ?_)
  refine JO_istore_n (pc := 21) (L' := [some (.ref (G.1 + off 111)), some (.int x1), some (.ref (G.1 + off a)), some (.int v5)]) dX6_find_21 rfl rfl rfl ?_
  exact JO_sub (l_sub_some (l_sub_some (l_sub_some (l_sub_some (l_sub_nil))))) (w_X6_find_22 G d a al ha fu x1 v5 σ4)
set_option maxHeartbeats 4000000 in
set_option maxRecDepth 100000 in
theorem w_X6_takeBestFrom_37 (G : JG) (d : Nat) (a : Nat) (al : Nat) (ha : akind SH a = some (0, al)) (k2 : Int32 → Mem → Option Mem) (hk2 : ∀ (x2 : Int32) (σ : Mem), JO G mX6_takeBestFrom (d + 1) 2 [some (.ref (G.1 + off 111)), some (.ref (G.1 + off a)), some (.int x2), none] [] σ rV (k2 x2 σ)) : ∀ (x2 : Int32) (s0 : Int32) (σ : Mem), JO G mX6_takeBestFrom (d + 1) 37 [some (.ref (G.1 + off 111)), some (.ref (G.1 + off a)), some (.int x2), none] [.int s0] σ rV (X6_takeBestFrom_37 a al k2 x2 s0 σ) := by
  intro x2 s0 σ
  unfold X6_takeBestFrom_37
  refine JO_istore_n (pc := 37) (L' := [some (.ref (G.1 + off 111)), some (.ref (G.1 + off a)), some (.int x2), some (.int s0)]) dX6_takeBestFrom_37 rfl rfl rfl ?_
  refine JO_aload_n (pc := 38) dX6_takeBestFrom_38 rfl ?_
  refine JO_aload_n (pc := 39) dX6_takeBestFrom_39 rfl ?_
  refine JO_getR (pc := 40) fl_X6_15 rfl fkX6_best dX6_takeBestFrom_40 ?_
  refine JO_iload_n (pc := 43) dX6_takeBestFrom_43 rfl ?_
  refine JO_iald (pc := 44) akX6_best dX6_takeBestFrom_44 ?_
  refine JO_iload_n (pc := 45) dX6_takeBestFrom_45 rfl ?_
  refine JO_callSNi (pc := 46) [.int (σ.1 113 x2.toNatClampNeg), .int s0] lk_X6_35 rfl (w_X11_cell G d (σ.1 113 x2.toNatClampNeg) s0 σ) rfl rfl (Nat.le_of_ble_eq_true rfl) dX6_takeBestFrom_46 (fun r2 => ?_)
  refine JO_dup2 (pc := 49) dX6_takeBestFrom_49 rfl rfl ?_
  refine JO_iald (pc := 50) ha dX6_takeBestFrom_50 ?_
  refine JO_aload_n (pc := 51) dX6_takeBestFrom_51 rfl ?_
  refine JO_getI (pc := 52) fl_X6_18 rfl fkX6_bestLeast dX6_takeBestFrom_52 ?_
  refine JO_isub (pc := 55) dX6_takeBestFrom_55 ?_
  refine JO_iast (pc := 56) ha dX6_takeBestFrom_56 (fun σ3 => ?_)
  refine JO_inc (pc := 57) (b := 1) (L' := fun v4 => [some (.ref (G.1 + off 111)), some (.ref (G.1 + off a)), some (.int v4), some (.int s0)]) dX6_takeBestFrom_57 rfl rfl (by decide) rfl (fun _ => rfl) (fun v4 => ?_)
  refine JO_goto (pc := 60) (tgt := 2) dX6_takeBestFrom_60 (by decide) ?_
  exact JO_sub (l_sub_some (l_sub_some (l_sub_some (l_sub_none (l_sub_nil))))) (hk2 v4 σ3)
set_option maxHeartbeats 4000000 in
set_option maxRecDepth 100000 in
theorem w_X6_takeBestFrom_2 (G : JG) (d : Nat) (a : Nat) (al : Nat) (ha : akind SH a = some (0, al)) : ∀ (n : Nat) (x2 : Int32) (σ : Mem), JO G mX6_takeBestFrom (d + 1) 2 [some (.ref (G.1 + off 111)), some (.ref (G.1 + off a)), some (.int x2), none] [] σ rV (X6_takeBestFrom_2 a al n x2 σ) := by
  intro n
  induction n with
  | zero =>
    intro x2 σ
    exact JO_none
  | succ n ih =>
    intro x2 σ
    rw [X6_takeBestFrom_2]
    refine JO_iload_n (pc := 2) dX6_takeBestFrom_2 rfl ?_
    refine JO_aload_n (pc := 3) dX6_takeBestFrom_3 rfl ?_
    refine JO_getI (pc := 4) fl_X6_22 rfl fkX6_bestLength dX6_takeBestFrom_4 ?_
    refine JO_icmp_ge (pc := 7) (tgt := 63) dX6_takeBestFrom_7 (by decide) ?_ ?_
    · exact JO_retv (pc := 63) rfl dX6_takeBestFrom_63
    · refine JO_iload_n (pc := 10) dX6_takeBestFrom_10 rfl ?_
      refine JO_iconst (pc := 11) (a := 1) dX6_takeBestFrom_11 (by decide) ?_
      refine JO_iadd (pc := 12) dX6_takeBestFrom_12 ?_
      refine JO_aload_n (pc := 13) dX6_takeBestFrom_13 rfl ?_
      refine JO_getI (pc := 14) fl_X6_22 rfl fkX6_bestLength dX6_takeBestFrom_14 ?_
      refine JO_icmp_ge (pc := 17) (tgt := 31) dX6_takeBestFrom_17 (by decide) ?_ ?_
      · refine JO_aload_n (pc := 31) dX6_takeBestFrom_31 rfl ?_
        refine JO_getR (pc := 32) fl_X6_15 rfl fkX6_best dX6_takeBestFrom_32 ?_
        refine JO_iconst (pc := 35) (a := 0) dX6_takeBestFrom_35 (by decide) ?_
        refine JO_ialdc (pc := 36) (k := 0) akX6_best (by decide) (by decide) dX6_takeBestFrom_36 ?_
        exact JO_sub (l_sub_some (l_sub_some (l_sub_some (l_sub_none (l_sub_nil))))) (w_X6_takeBestFrom_37 G d a al ha _ (ih) x2 (σ.1 113 0) σ)
      · refine JO_aload_n (pc := 20) dX6_takeBestFrom_20 rfl ?_
        refine JO_getR (pc := 21) fl_X6_15 rfl fkX6_best dX6_takeBestFrom_21 ?_
        refine JO_iload_n (pc := 24) dX6_takeBestFrom_24 rfl ?_
        refine JO_iconst (pc := 25) (a := 1) dX6_takeBestFrom_25 (by decide) ?_
        refine JO_iadd (pc := 26) dX6_takeBestFrom_26 ?_
        refine JO_iald (pc := 27) akX6_best dX6_takeBestFrom_27 ?_
        refine JO_goto (pc := 28) (tgt := 37) dX6_takeBestFrom_28 (by decide) ?_
        exact JO_sub (l_sub_some (l_sub_some (l_sub_some (l_sub_none (l_sub_nil))))) (w_X6_takeBestFrom_37 G d a al ha _ (ih) x2 (σ.1 113 (x2 + 1).toNatClampNeg) σ)
set_option maxHeartbeats 4000000 in
set_option maxRecDepth 100000 in
theorem w_X6_takeBestFrom (G : JG) (d : Nat) (a : Nat) (al : Nat) (ha : akind SH a = some (0, al)) (σ : Mem) : JS G mX6_takeBestFrom (d + 1) [.ref (G.1 + off 111), .ref (G.1 + off a)] σ rV (X6_takeBestFrom a al σ) := by
  refine JS_of 2 (by decide +kernel) (Nat.le_of_ble_eq_true rfl) (L := [some (.ref (G.1 + off 111)), some (.ref (G.1 + off a)), none, none]) rfl ?_
  unfold X6_takeBestFrom
  refine JO_iconst (pc := 0) (a := 0) dX6_takeBestFrom_0 (by decide) ?_
  refine JO_nm (fun v1 => ?_)
  refine JO_istore_n (pc := 1) (L' := [some (.ref (G.1 + off 111)), some (.ref (G.1 + off a)), some (.int v1), none]) dX6_takeBestFrom_1 rfl rfl rfl ?_
  exact JO_sub (l_sub_some (l_sub_some (l_sub_some (l_sub_none (l_sub_nil))))) (w_X6_takeBestFrom_2 G d a al ha fu v1 σ)
set_option maxHeartbeats 4000000 in
set_option maxRecDepth 100000 in
theorem w_X7_begin_50 (G : JG) (d : Nat) (o : Nat) (t : Nat) (ho : isState o) (ht : isTown t) : ∀ (n : Nat) (x2 : Int32) (σ : Mem), JO G mX7_begin (d + 1) 50 [some (.ref (G.1 + off o)), none, some (.int x2)] [] σ rV (X7_begin_50 o t n x2 σ) := by
  intro n
  induction n with
  | zero =>
    intro x2 σ
    exact JO_none
  | succ n ih =>
    intro x2 σ
    rw [X7_begin_50]
    refine JO_iload_n (pc := 50) dX7_begin_50 rfl ?_
    refine JO_bipush (pc := 51) (a := 6) dX7_begin_51 (by decide) ?_
    refine JO_icmp_ge (pc := 53) (tgt := 76) dX7_begin_53 (by decide) ?_ ?_
    · refine JO_aload_n (pc := 76) dX7_begin_76 rfl ?_
      refine JO_iconst (pc := 77) (a := 0) dX7_begin_77 (by decide) ?_
      refine JO_putI (pc := 78) fl_X7_40 rfl (fkState_date ho) dX7_begin_78 (fun σ5 => ?_)
      refine JO_aload_n (pc := 81) dX7_begin_81 rfl ?_
      refine JO_iconst (pc := 82) (a := 0) dX7_begin_82 (by decide) ?_
      refine JO_putI (pc := 83) fl_X7_44 rfl (fkState_hour ho) dX7_begin_83 (fun σ6 => ?_)
      refine JO_aload_n (pc := 86) dX7_begin_86 rfl ?_
      refine JO_iconst (pc := 87) (a := 0) dX7_begin_87 (by decide) ?_
      refine JO_putI (pc := 88) fl_X7_47 rfl (fkState_past ho) dX7_begin_88 (fun σ7 => ?_)
      exact JO_retv (pc := 91) rfl dX7_begin_91
    · refine JO_aload_n (pc := 56) dX7_begin_56 rfl ?_
      refine JO_getR (pc := 57) fl_X7_15 rfl (fkState_aim ho) dX7_begin_57 ?_
      refine JO_iload_n (pc := 60) dX7_begin_60 rfl ?_
      refine JO_iconst (pc := 61) (a := (-1)) dX7_begin_61 (by decide) ?_
      refine JO_iast (pc := 62) (akState_aim ho) dX7_begin_62 (fun σ8 => ?_)
      refine JO_aload_n (pc := 63) dX7_begin_63 rfl ?_
      refine JO_getR (pc := 64) fl_X7_18 rfl (fkState_stand ho) dX7_begin_64 ?_
      refine JO_iload_n (pc := 67) dX7_begin_67 rfl ?_
      refine JO_iload_n (pc := 68) dX7_begin_68 rfl ?_
      refine JO_iast (pc := 69) (akState_stand ho) dX7_begin_69 (fun σ9 => ?_)
      refine JO_inc (pc := 70) (b := 1) (L' := fun v10 => [some (.ref (G.1 + off o)), none, some (.int v10)]) dX7_begin_70 rfl rfl (by decide) rfl (fun _ => rfl) (fun v10 => ?_)
      refine JO_goto (pc := 73) (tgt := 50) dX7_begin_73 (by decide) ?_
      exact JO_sub (l_sub_some (l_sub_none (l_sub_some (l_sub_nil)))) (ih v10 σ9)
set_option maxHeartbeats 4000000 in
set_option maxRecDepth 100000 in
theorem w_X7_begin (G : JG) (d : Nat) (o : Nat) (t : Nat) (ho : isState o) (ht : isTown t) (σ : Mem) : JS G mX7_begin (d + 1) [.ref (G.1 + off o), .ref (G.1 + off t)] σ rV (X7_begin o t σ) := by
  refine JS_of 1 (by decide +kernel) (Nat.le_of_ble_eq_true rfl) (L := [some (.ref (G.1 + off o)), some (.ref (G.1 + off t)), none]) rfl ?_
  unfold X7_begin
  refine JO_aload_n (pc := 0) dX7_begin_0 rfl ?_
  refine JO_getR (pc := 1) fl_X7_27 rfl (fkTown_door ht) dX7_begin_1 ?_
  refine JO_iconst (pc := 4) (a := 0) dX7_begin_4 (by decide) ?_
  refine JO_aload_n (pc := 5) dX7_begin_5 rfl ?_
  refine JO_getR (pc := 6) fl_X7_9 rfl (fkState_place ho) dX7_begin_6 ?_
  refine JO_iconst (pc := 9) (a := 0) dX7_begin_9 (by decide) ?_
  refine JO_bipush (pc := 10) (a := 6) dX7_begin_10 (by decide) ?_
  refine JO_copy (pc := 12) lc_X7_32 rfl (akTown_door ht) (akState_place ho) (Nat.le_of_ble_eq_true rfl) dX7_begin_12 (fun σ1 => ?_)
  refine JO_aload_n (pc := 15) dX7_begin_15 rfl ?_
  refine JO_getR (pc := 16) fl_X7_38 rfl (fkTown_coin ht) dX7_begin_16 ?_
  refine JO_iconst (pc := 19) (a := 0) dX7_begin_19 (by decide) ?_
  refine JO_aload_n (pc := 20) dX7_begin_20 rfl ?_
  refine JO_getR (pc := 21) fl_X7_21 rfl (fkState_coin ho) dX7_begin_21 ?_
  refine JO_iconst (pc := 24) (a := 0) dX7_begin_24 (by decide) ?_
  refine JO_bipush (pc := 25) (a := 6) dX7_begin_25 (by decide) ?_
  refine JO_copy (pc := 27) lc_X7_32 rfl (akTown_coin ht) (akState_coin ho) (Nat.le_of_ble_eq_true rfl) dX7_begin_27 (fun σ2 => ?_)
  refine JO_aload_n (pc := 30) dX7_begin_30 rfl ?_
  refine JO_getR (pc := 31) fl_X7_39 rfl (fkTown_debt ht) dX7_begin_31 ?_
  refine JO_iconst (pc := 34) (a := 0) dX7_begin_34 (by decide) ?_
  refine JO_aload_n (pc := 35) dX7_begin_35 rfl ?_
  refine JO_getR (pc := 36) fl_X7_24 rfl (fkState_debt ho) dX7_begin_36 ?_
  refine JO_iconst (pc := 39) (a := 0) dX7_begin_39 (by decide) ?_
  refine JO_aload_n (pc := 40) dX7_begin_40 rfl ?_
  refine JO_getR (pc := 41) fl_X7_24 rfl (fkState_debt ho) dX7_begin_41 ?_
  refine JO_alen (pc := 44) (a := 36) (akState_debt ho) (by decide) (by decide) dX7_begin_44 ?_
  refine JO_copy (pc := 45) lc_X7_32 rfl (akTown_debt ht) (akState_debt ho) (Nat.le_of_ble_eq_true rfl) dX7_begin_45 (fun σ3 => ?_)
  refine JO_iconst (pc := 48) (a := 0) dX7_begin_48 (by decide) ?_
  refine JO_nm (fun v4 => ?_)
  refine JO_istore_n (pc := 49) (L' := [some (.ref (G.1 + off o)), some (.ref (G.1 + off t)), some (.int v4)]) dX7_begin_49 rfl rfl rfl ?_
  exact JO_sub (l_sub_some (l_sub_none (l_sub_some (l_sub_nil)))) (w_X7_begin_50 G d o t ho ht fu v4 σ3)
set_option maxHeartbeats 4000000 in
set_option maxRecDepth 100000 in
theorem w_X7_owedBy_4 (G : JG) (d : Nat) (o : Nat) (ho : isState o) : ∀ (n : Nat) (x1 : Int32) (x2 : Int32) (x3 : Int32) (σ : Mem), JO G mX7_owedBy (d + 1) 4 [some (.ref (G.1 + off o)), some (.int x1), some (.int x2), some (.int x3)] [] σ rI (X7_owedBy_4 o n x1 x2 x3 σ) := by
  intro n
  induction n with
  | zero =>
    intro x1 x2 x3 σ
    exact JO_none
  | succ n ih =>
    intro x1 x2 x3 σ
    rw [X7_owedBy_4]
    refine JO_iload_n (pc := 4) dX7_owedBy_4 rfl ?_
    refine JO_bipush (pc := 5) (a := 6) dX7_owedBy_5 (by decide) ?_
    refine JO_icmp_ge (pc := 7) (tgt := 29) dX7_owedBy_7 (by decide) ?_ ?_
    · refine JO_iload_n (pc := 29) dX7_owedBy_29 rfl ?_
      exact JO_reti (pc := 30) rfl dX7_owedBy_30
    · refine JO_iload_n (pc := 10) dX7_owedBy_10 rfl ?_
      refine JO_aload_n (pc := 11) dX7_owedBy_11 rfl ?_
      refine JO_getR (pc := 12) fl_X7_24 rfl (fkState_debt ho) dX7_owedBy_12 ?_
      refine JO_iload_n (pc := 15) dX7_owedBy_15 rfl ?_
      refine JO_iload_n (pc := 16) dX7_owedBy_16 rfl ?_
      refine JO_callSNi (pc := 17) [.int x1, .int x3] lk_X7_50 rfl (w_X11_cell G d x1 x3 σ) rfl rfl (Nat.le_of_ble_eq_true rfl) dX7_owedBy_17 (fun r3 => ?_)
      refine JO_iald (pc := 20) (akState_debt ho) dX7_owedBy_20 ?_
      refine JO_iadd (pc := 21) dX7_owedBy_21 ?_
      refine JO_nm (fun v4 => ?_)
      refine JO_istore_n (pc := 22) (L' := [some (.ref (G.1 + off o)), some (.int x1), some (.int v4), some (.int x3)]) dX7_owedBy_22 rfl rfl rfl ?_
      refine JO_inc (pc := 23) (b := 1) (L' := fun v5 => [some (.ref (G.1 + off o)), some (.int x1), some (.int v4), some (.int v5)]) dX7_owedBy_23 rfl rfl (by decide) rfl (fun _ => rfl) (fun v5 => ?_)
      refine JO_goto (pc := 26) (tgt := 4) dX7_owedBy_26 (by decide) ?_
      exact JO_sub (l_sub_some (l_sub_some (l_sub_some (l_sub_some (l_sub_nil))))) (ih x1 v4 v5 r3.2)
set_option maxHeartbeats 4000000 in
set_option maxRecDepth 100000 in
theorem w_X7_owedBy (G : JG) (d : Nat) (o : Nat) (ho : isState o) (x1 : Int32) (σ : Mem) : JS G mX7_owedBy (d + 1) [.ref (G.1 + off o), .int x1] σ rI (X7_owedBy o x1 σ) := by
  refine JS_of 2 (by decide +kernel) (Nat.le_of_ble_eq_true rfl) (L := [some (.ref (G.1 + off o)), some (.int x1), none, none]) rfl ?_
  unfold X7_owedBy
  refine JO_iconst (pc := 0) (a := 0) dX7_owedBy_0 (by decide) ?_
  refine JO_nm (fun v1 => ?_)
  refine JO_istore_n (pc := 1) (L' := [some (.ref (G.1 + off o)), some (.int x1), some (.int v1), none]) dX7_owedBy_1 rfl rfl rfl ?_
  refine JO_iconst (pc := 2) (a := 0) dX7_owedBy_2 (by decide) ?_
  refine JO_nm (fun v2 => ?_)
  refine JO_istore_n (pc := 3) (L' := [some (.ref (G.1 + off o)), some (.int x1), some (.int v1), some (.int v2)]) dX7_owedBy_3 rfl rfl rfl ?_
  exact JO_sub (l_sub_some (l_sub_some (l_sub_some (l_sub_some (l_sub_nil))))) (w_X7_owedBy_4 G d o ho fu x1 v1 v2 σ)
set_option maxHeartbeats 4000000 in
set_option maxRecDepth 100000 in
theorem w_X7_debtsLeft_25 (G : JG) (d : Nat) (o : Nat) (ho : isState o) (k4 : Int32 → Int32 → Mem → Option (Int32 × Mem)) (hk4 : ∀ (x1 : Int32) (x2 : Int32) (σ : Mem), JO G mX7_debtsLeft d 4 [some (.ref (G.1 + off o)), some (.int x1), some (.int x2)] [] σ rI (k4 x1 x2 σ)) : ∀ (x1 : Int32) (x2 : Int32) (σ : Mem), JO G mX7_debtsLeft d 25 [some (.ref (G.1 + off o)), some (.int x1), some (.int x2)] [] σ rI (X7_debtsLeft_25 o k4 x1 x2 σ) := by
  intro x1 x2 σ
  unfold X7_debtsLeft_25
  refine JO_inc (pc := 25) (b := 1) (L' := fun v4 => [some (.ref (G.1 + off o)), some (.int x1), some (.int v4)]) dX7_debtsLeft_25 rfl rfl (by decide) rfl (fun _ => rfl) (fun v4 => ?_)
  refine JO_goto (pc := 28) (tgt := 4) dX7_debtsLeft_28 (by decide) ?_
  exact JO_sub (l_sub_some (l_sub_some (l_sub_some (l_sub_nil)))) (hk4 x1 v4 σ)
set_option maxHeartbeats 4000000 in
set_option maxRecDepth 100000 in
theorem w_X7_debtsLeft_4 (G : JG) (d : Nat) (o : Nat) (ho : isState o) : ∀ (n : Nat) (x1 : Int32) (x2 : Int32) (σ : Mem), JO G mX7_debtsLeft d 4 [some (.ref (G.1 + off o)), some (.int x1), some (.int x2)] [] σ rI (X7_debtsLeft_4 o n x1 x2 σ) := by
  intro n
  induction n with
  | zero =>
    intro x1 x2 σ
    exact JO_none
  | succ n ih =>
    intro x1 x2 σ
    rw [X7_debtsLeft_4]
    refine JO_iload_n (pc := 4) dX7_debtsLeft_4 rfl ?_
    refine JO_aload_n (pc := 5) dX7_debtsLeft_5 rfl ?_
    refine JO_getR (pc := 6) fl_X7_24 rfl (fkState_debt ho) dX7_debtsLeft_6 ?_
    refine JO_alen (pc := 9) (a := 36) (akState_debt ho) (by decide) (by decide) dX7_debtsLeft_9 ?_
    refine JO_icmp_ge (pc := 10) (tgt := 31) dX7_debtsLeft_10 (by decide) ?_ ?_
    · refine JO_iload_n (pc := 31) dX7_debtsLeft_31 rfl ?_
      exact JO_reti (pc := 32) rfl dX7_debtsLeft_32
    · refine JO_aload_n (pc := 13) dX7_debtsLeft_13 rfl ?_
      refine JO_getR (pc := 14) fl_X7_24 rfl (fkState_debt ho) dX7_debtsLeft_14 ?_
      refine JO_iload_n (pc := 17) dX7_debtsLeft_17 rfl ?_
      refine JO_iald (pc := 18) (akState_debt ho) dX7_debtsLeft_18 ?_
      refine JO_if_le (pc := 19) (tgt := 25) dX7_debtsLeft_19 (by decide) ?_ ?_
      · exact JO_sub (l_sub_some (l_sub_some (l_sub_some (l_sub_nil)))) (w_X7_debtsLeft_25 G d o ho _ (ih) x1 x2 σ)
      · refine JO_inc (pc := 22) (b := 1) (L' := fun v3 => [some (.ref (G.1 + off o)), some (.int v3), some (.int x2)]) dX7_debtsLeft_22 rfl rfl (by decide) rfl (fun _ => rfl) (fun v3 => ?_)
        exact JO_sub (l_sub_some (l_sub_some (l_sub_some (l_sub_nil)))) (w_X7_debtsLeft_25 G d o ho _ (ih) v3 x2 σ)
set_option maxHeartbeats 4000000 in
set_option maxRecDepth 100000 in
theorem w_X7_debtsLeft (G : JG) (d : Nat) (o : Nat) (ho : isState o) (σ : Mem) : JS G mX7_debtsLeft d [.ref (G.1 + off o)] σ rI (X7_debtsLeft o σ) := by
  refine JS_of 2 (by decide +kernel) (Nat.le_of_ble_eq_true rfl) (L := [some (.ref (G.1 + off o)), none, none]) rfl ?_
  unfold X7_debtsLeft
  refine JO_iconst (pc := 0) (a := 0) dX7_debtsLeft_0 (by decide) ?_
  refine JO_nm (fun v1 => ?_)
  refine JO_istore_n (pc := 1) (L' := [some (.ref (G.1 + off o)), some (.int v1), none]) dX7_debtsLeft_1 rfl rfl rfl ?_
  refine JO_iconst (pc := 2) (a := 0) dX7_debtsLeft_2 (by decide) ?_
  refine JO_nm (fun v2 => ?_)
  refine JO_istore_n (pc := 3) (L' := [some (.ref (G.1 + off o)), some (.int v1), some (.int v2)]) dX7_debtsLeft_3 rfl rfl rfl ?_
  exact JO_sub (l_sub_some (l_sub_some (l_sub_some (l_sub_nil)))) (w_X7_debtsLeft_4 G d o ho fu v1 v2 σ)
set_option maxHeartbeats 4000000 in
set_option maxRecDepth 100000 in
theorem w_X8_forget (G : JG) (d : Nat) (σ : Mem) : JS G mX8_forget d [.ref (G.1 + off 114)] σ rV (X8_forget σ) := by
  refine JS_of 0 (by decide +kernel) (Nat.le_of_ble_eq_true rfl) (L := [some (.ref (G.1 + off 114))]) rfl ?_
  unfold X8_forget
  refine JO_aload_n (pc := 0) dX8_forget_0 rfl ?_
  refine JO_iconst (pc := 1) (a := 0) dX8_forget_1 (by decide) ?_
  refine JO_putI (pc := 2) fl_X8_30 rfl fkX8_count dX8_forget_2 (fun σ1 => ?_)
  exact JO_retv (pc := 5) rfl dX8_forget_5
set_option maxHeartbeats 4000000 in
set_option maxRecDepth 100000 in
theorem w_X8_tell (G : JG) (d : Nat) (x1 : Int32) (x2 : Int32) (x3 : Int32) (σ : Mem) : JS G mX8_tell d [.ref (G.1 + off 114), .int x1, .int x2, .int x3] σ rI (X8_tell x1 x2 x3 σ) := by
  refine JS_of 0 (by decide +kernel) (Nat.le_of_ble_eq_true rfl) (L := [some (.ref (G.1 + off 114)), some (.int x1), some (.int x2), some (.int x3)]) rfl ?_
  unfold X8_tell
  refine JO_aload_n (pc := 0) dX8_tell_0 rfl ?_
  refine JO_getI (pc := 1) fl_X8_30 rfl fkX8_count dX8_tell_1 ?_
  refine JO_bipush (pc := 4) (a := 30) dX8_tell_4 (by decide) ?_
  refine JO_icmp_lt (pc := 6) (tgt := 11) dX8_tell_6 (by decide) ?_ ?_
  · refine JO_aload_n (pc := 11) dX8_tell_11 rfl ?_
    refine JO_getR (pc := 12) fl_X8_11 rfl fkX8_person dX8_tell_12 ?_
    refine JO_aload_n (pc := 15) dX8_tell_15 rfl ?_
    refine JO_getI (pc := 16) fl_X8_30 rfl fkX8_count dX8_tell_16 ?_
    refine JO_iload_n (pc := 19) dX8_tell_19 rfl ?_
    refine JO_iast (pc := 20) akX8_person dX8_tell_20 (fun σ1 => ?_)
    refine JO_aload_n (pc := 21) dX8_tell_21 rfl ?_
    refine JO_getR (pc := 22) fl_X8_15 rfl fkX8_hour dX8_tell_22 ?_
    refine JO_aload_n (pc := 25) dX8_tell_25 rfl ?_
    refine JO_getI (pc := 26) fl_X8_30 rfl fkX8_count dX8_tell_26 ?_
    refine JO_iload_n (pc := 29) dX8_tell_29 rfl ?_
    refine JO_iast (pc := 30) akX8_hour dX8_tell_30 (fun σ2 => ?_)
    refine JO_aload_n (pc := 31) dX8_tell_31 rfl ?_
    refine JO_getR (pc := 32) fl_X8_18 rfl fkX8_place dX8_tell_32 ?_
    refine JO_aload_n (pc := 35) dX8_tell_35 rfl ?_
    refine JO_getI (pc := 36) fl_X8_30 rfl fkX8_count dX8_tell_36 ?_
    refine JO_iload_n (pc := 39) dX8_tell_39 rfl ?_
    refine JO_iast (pc := 40) akX8_place dX8_tell_40 (fun σ3 => ?_)
    refine JO_aload_n (pc := 41) dX8_tell_41 rfl ?_
    refine JO_getR (pc := 42) fl_X8_21 rfl fkX8_toldAt dX8_tell_42 ?_
    refine JO_aload_n (pc := 45) dX8_tell_45 rfl ?_
    refine JO_getI (pc := 46) fl_X8_30 rfl fkX8_count dX8_tell_46 ?_
    refine JO_aload_n (pc := 49) dX8_tell_49 rfl ?_
    refine JO_getI (pc := 50) fl_X8_34 rfl fkX8_time dX8_tell_50 ?_
    refine JO_iast (pc := 53) akX8_toldAt dX8_tell_53 (fun σ4 => ?_)
    refine JO_aload_n (pc := 54) dX8_tell_54 rfl ?_
    refine JO_getR (pc := 55) fl_X8_24 rfl fkX8_untoldAt dX8_tell_55 ?_
    refine JO_aload_n (pc := 58) dX8_tell_58 rfl ?_
    refine JO_getI (pc := 59) fl_X8_30 rfl fkX8_count dX8_tell_59 ?_
    refine JO_iconst (pc := 62) (a := (-1)) dX8_tell_62 (by decide) ?_
    refine JO_iast (pc := 63) akX8_untoldAt dX8_tell_63 (fun σ5 => ?_)
    refine JO_aload_n (pc := 64) dX8_tell_64 rfl ?_
    refine JO_dup (pc := 65) dX8_tell_65 rfl ?_
    refine JO_getI (pc := 66) fl_X8_30 rfl fkX8_count dX8_tell_66 ?_
    refine JO_iconst (pc := 69) (a := 1) dX8_tell_69 (by decide) ?_
    refine JO_iadd (pc := 70) dX8_tell_70 ?_
    refine JO_putI (pc := 71) fl_X8_30 rfl fkX8_count dX8_tell_71 (fun σ6 => ?_)
    refine JO_aload_n (pc := 74) dX8_tell_74 rfl ?_
    refine JO_getI (pc := 75) fl_X8_30 rfl fkX8_count dX8_tell_75 ?_
    refine JO_iconst (pc := 78) (a := 1) dX8_tell_78 (by decide) ?_
    refine JO_isub (pc := 79) dX8_tell_79 ?_
    exact JO_reti (pc := 80) rfl dX8_tell_80
  · refine JO_iconst (pc := 9) (a := (-1)) dX8_tell_9 (by decide) ?_
    exact JO_reti (pc := 10) rfl dX8_tell_10
set_option maxHeartbeats 4000000 in
set_option maxRecDepth 100000 in
theorem w_X8_takeBack (G : JG) (d : Nat) (x1 : Int32) (σ : Mem) : JS G mX8_takeBack d [.ref (G.1 + off 114), .int x1] σ rI (X8_takeBack x1 σ) := by
  refine JS_of 0 (by decide +kernel) (Nat.le_of_ble_eq_true rfl) (L := [some (.ref (G.1 + off 114)), some (.int x1)]) rfl ?_
  unfold X8_takeBack
  refine JO_iload_n (pc := 0) dX8_takeBack_0 rfl ?_
  refine JO_if_lt (pc := 1) (tgt := 22) dX8_takeBack_1 (by decide) ?_ ?_
  · refine JO_iconst (pc := 22) (a := 0) dX8_takeBack_22 (by decide) ?_
    exact JO_retzc (pc := 23) (by decide) rfl dX8_takeBack_23
  · refine JO_iload_n (pc := 4) dX8_takeBack_4 rfl ?_
    refine JO_aload_n (pc := 5) dX8_takeBack_5 rfl ?_
    refine JO_getI (pc := 6) fl_X8_30 rfl fkX8_count dX8_takeBack_6 ?_
    refine JO_icmp_ge (pc := 9) (tgt := 22) dX8_takeBack_9 (by decide) ?_ ?_
    · refine JO_iconst (pc := 22) (a := 0) dX8_takeBack_22 (by decide) ?_
      exact JO_retzc (pc := 23) (by decide) rfl dX8_takeBack_23
    · refine JO_aload_n (pc := 12) dX8_takeBack_12 rfl ?_
      refine JO_getR (pc := 13) fl_X8_24 rfl fkX8_untoldAt dX8_takeBack_13 ?_
      refine JO_iload_n (pc := 16) dX8_takeBack_16 rfl ?_
      refine JO_iald (pc := 17) akX8_untoldAt dX8_takeBack_17 ?_
      refine JO_iconst (pc := 18) (a := (-1)) dX8_takeBack_18 (by decide) ?_
      refine JO_icmp_eq (pc := 19) (tgt := 24) dX8_takeBack_19 (by decide) ?_ ?_
      · refine JO_aload_n (pc := 24) dX8_takeBack_24 rfl ?_
        refine JO_getR (pc := 25) fl_X8_24 rfl fkX8_untoldAt dX8_takeBack_25 ?_
        refine JO_iload_n (pc := 28) dX8_takeBack_28 rfl ?_
        refine JO_aload_n (pc := 29) dX8_takeBack_29 rfl ?_
        refine JO_getI (pc := 30) fl_X8_34 rfl fkX8_time dX8_takeBack_30 ?_
        refine JO_iast (pc := 33) akX8_untoldAt dX8_takeBack_33 (fun σ1 => ?_)
        refine JO_iconst (pc := 34) (a := 1) dX8_takeBack_34 (by decide) ?_
        exact JO_retzc (pc := 35) (by decide) rfl dX8_takeBack_35
      · refine JO_iconst (pc := 22) (a := 0) dX8_takeBack_22 (by decide) ?_
        exact JO_retzc (pc := 23) (by decide) rfl dX8_takeBack_23
set_option maxHeartbeats 4000000 in
set_option maxRecDepth 100000 in
theorem w_X8_goOn (G : JG) (d : Nat) (x1 : Int32) (σ : Mem) : JS G mX8_goOn d [.ref (G.1 + off 114), .int x1] σ rI (X8_goOn x1 σ) := by
  refine JS_of 0 (by decide +kernel) (Nat.le_of_ble_eq_true rfl) (L := [some (.ref (G.1 + off 114)), some (.int x1)]) rfl ?_
  unfold X8_goOn
  refine JO_iload_n (pc := 0) dX8_goOn_0 rfl ?_
  refine JO_if_lt (pc := 1) (tgt := 22) dX8_goOn_1 (by decide) ?_ ?_
  · refine JO_iconst (pc := 22) (a := (-1)) dX8_goOn_22 (by decide) ?_
    exact JO_reti (pc := 23) rfl dX8_goOn_23
  · refine JO_iload_n (pc := 4) dX8_goOn_4 rfl ?_
    refine JO_sipush (pc := 5) (a := 1000) dX8_goOn_5 (by decide) ?_
    refine JO_icmp_gt (pc := 8) (tgt := 22) dX8_goOn_8 (by decide) ?_ ?_
    · refine JO_iconst (pc := 22) (a := (-1)) dX8_goOn_22 (by decide) ?_
      exact JO_reti (pc := 23) rfl dX8_goOn_23
    · refine JO_aload_n (pc := 11) dX8_goOn_11 rfl ?_
      refine JO_getI (pc := 12) fl_X8_34 rfl fkX8_time dX8_goOn_12 ?_
      refine JO_iload_n (pc := 15) dX8_goOn_15 rfl ?_
      refine JO_iadd (pc := 16) dX8_goOn_16 ?_
      refine JO_ldc (pc := 17) kc_X8_37 rfl dX8_goOn_17 ?_
      refine JO_icmp_le (pc := 19) (tgt := 24) dX8_goOn_19 (by decide) ?_ ?_
      · refine JO_aload_n (pc := 24) dX8_goOn_24 rfl ?_
        refine JO_dup (pc := 25) dX8_goOn_25 rfl ?_
        refine JO_getI (pc := 26) fl_X8_34 rfl fkX8_time dX8_goOn_26 ?_
        refine JO_iload_n (pc := 29) dX8_goOn_29 rfl ?_
        refine JO_iadd (pc := 30) dX8_goOn_30 ?_
        refine JO_putI (pc := 31) fl_X8_34 rfl fkX8_time dX8_goOn_31 (fun σ1 => ?_)
        refine JO_aload_n (pc := 34) dX8_goOn_34 rfl ?_
        refine JO_getI (pc := 35) fl_X8_34 rfl fkX8_time dX8_goOn_35 ?_
        exact JO_reti (pc := 38) rfl dX8_goOn_38
      · refine JO_iconst (pc := 22) (a := (-1)) dX8_goOn_22 (by decide) ?_
        exact JO_reti (pc := 23) rfl dX8_goOn_23
set_option maxHeartbeats 4000000 in
set_option maxRecDepth 100000 in
theorem w_X8_layWay_68 (G : JG) (d : Nat) (t : Nat) (ht : isTown t) (k71 : Int32 → Int32 → Int32 → Int32 → Mem → Option Mem) (hk71 : ∀ (x2 : Int32) (x3 : Int32) (x4 : Int32) (x5 : Int32) (σ : Mem), JO G mX8_layWay (d + 1) 71 [some (.ref (G.1 + off 114)), some (.ref (G.1 + off t)), some (.int x2), some (.int x3), some (.int x4), some (.int x5), none] [] σ rV (k71 x2 x3 x4 x5 σ)) : ∀ (x2 : Int32) (x3 : Int32) (x5 : Int32) (s0 : Int32) (s1 : Int32) (σ : Mem), JO G mX8_layWay (d + 1) 68 [some (.ref (G.1 + off 114)), some (.ref (G.1 + off t)), some (.int x2), some (.int x3), none, some (.int x5), none] [.int s0, .int s1] σ rV (X8_layWay_68 t k71 x2 x3 x5 s0 s1 σ) := by
  intro x2 x3 x5 s0 s1 σ
  unfold X8_layWay_68
  refine JO_iadd (pc := 68) dX8_layWay_68 ?_
  refine JO_nm (fun v6 => ?_)
  refine JO_istore (pc := 69) (L' := [some (.ref (G.1 + off 114)), some (.ref (G.1 + off t)), some (.int x2), some (.int x3), some (.int v6), some (.int x5), none]) dX8_layWay_69 rfl rfl rfl ?_
  exact JO_sub (l_sub_some (l_sub_some (l_sub_some (l_sub_some (l_sub_some (l_sub_some (l_sub_none (l_sub_nil)))))))) (hk71 x2 x3 v6 x5 σ)
set_option maxHeartbeats 4000000 in
set_option maxRecDepth 100000 in
theorem w_X8_layWay_71 (G : JG) (d : Nat) (t : Nat) (ht : isTown t) (k11 : Int32 → Int32 → Int32 → Int32 → Mem → Option Mem) (hk11 : ∀ (x2 : Int32) (x3 : Int32) (x4 : Int32) (x5 : Int32) (σ : Mem), JO G mX8_layWay (d + 1) 11 [some (.ref (G.1 + off 114)), some (.ref (G.1 + off t)), some (.int x2), some (.int x3), some (.int x4), some (.int x5), none] [] σ rV (k11 x2 x3 x4 x5 σ)) : ∀ (x2 : Int32) (x3 : Int32) (x4 : Int32) (x5 : Int32) (σ : Mem), JO G mX8_layWay (d + 1) 71 [some (.ref (G.1 + off 114)), some (.ref (G.1 + off t)), some (.int x2), some (.int x3), some (.int x4), some (.int x5), none] [] σ rV (X8_layWay_71 t k11 x2 x3 x4 x5 σ) := by
  intro x2 x3 x4 x5 σ
  unfold X8_layWay_71
  refine JO_aload_n (pc := 71) dX8_layWay_71 rfl ?_
  refine JO_getR (pc := 72) fl_X8_27 rfl fkX8_ways dX8_layWay_72 ?_
  refine JO_iload_n (pc := 75) dX8_layWay_75 rfl ?_
  refine JO_bipush (pc := 76) (a := 24) dX8_layWay_76 (by decide) ?_
  refine JO_imul (pc := 78) dX8_layWay_78 ?_
  refine JO_iload (pc := 79) dX8_layWay_79 rfl ?_
  refine JO_iadd (pc := 81) dX8_layWay_81 ?_
  refine JO_iload (pc := 82) dX8_layWay_82 rfl ?_
  refine JO_iast (pc := 84) akX8_ways dX8_layWay_84 (fun σ4 => ?_)
  refine JO_inc (pc := 85) (b := 1) (L' := fun v5 => [some (.ref (G.1 + off 114)), some (.ref (G.1 + off t)), some (.int x2), some (.int x3), some (.int x4), some (.int v5), none]) dX8_layWay_85 rfl rfl (by decide) rfl (fun _ => rfl) (fun v5 => ?_)
  refine JO_goto (pc := 88) (tgt := 11) dX8_layWay_88 (by decide) ?_
  exact JO_sub (l_sub_some (l_sub_some (l_sub_some (l_sub_some (l_sub_some (l_sub_some (l_sub_none (l_sub_nil)))))))) (hk11 x2 x3 x4 v5 σ4)
set_option maxHeartbeats 4000000 in
set_option maxRecDepth 100000 in
theorem w_X8_layWay_45 (G : JG) (d : Nat) (t : Nat) (ht : isTown t) (k11 : Int32 → Int32 → Int32 → Int32 → Mem → Option Mem) (hk11 : ∀ (x2 : Int32) (x3 : Int32) (x4 : Int32) (x5 : Int32) (σ : Mem), JO G mX8_layWay (d + 1) 11 [some (.ref (G.1 + off 114)), some (.ref (G.1 + off t)), some (.int x2), some (.int x3), some (.int x4), some (.int x5), none] [] σ rV (k11 x2 x3 x4 x5 σ)) : ∀ (x2 : Int32) (x3 : Int32) (x4 : Int32) (x5 : Int32) (s0 : Int32) (σ : Mem), JO G mX8_layWay (d + 1) 45 [some (.ref (G.1 + off 114)), some (.ref (G.1 + off t)), some (.int x2), some (.int x3), some (.int x4), some (.int x5), none] [.int s0] σ rV (X8_layWay_45 t k11 x2 x3 x4 x5 s0 σ) := by
  intro x2 x3 x4 x5 s0 σ
  unfold X8_layWay_45
  refine JO_istore (pc := 45) (L' := [some (.ref (G.1 + off 114)), some (.ref (G.1 + off t)), some (.int x2), some (.int x3), some (.int x4), some (.int x5), some (.int s0)]) dX8_layWay_45 rfl rfl rfl ?_
  refine JO_iload (pc := 47) dX8_layWay_47 rfl ?_
  refine JO_iload (pc := 49) dX8_layWay_49 rfl ?_
  refine JO_icmp_eq (pc := 51) (tgt := 71) dX8_layWay_51 (by decide) ?_ ?_
  · exact JO_sub (l_sub_some (l_sub_some (l_sub_some (l_sub_some (l_sub_some (l_sub_some (l_sub_none (l_sub_nil)))))))) (w_X8_layWay_71 G d t ht _ (hk11) x2 x3 x4 x5 σ)
  · refine JO_iload (pc := 54) dX8_layWay_54 rfl ?_
    refine JO_iload (pc := 56) dX8_layWay_56 rfl ?_
    refine JO_iload (pc := 58) dX8_layWay_58 rfl ?_
    refine JO_icmp_ge (pc := 60) (tgt := 67) dX8_layWay_60 (by decide) ?_ ?_
    · refine JO_iconst (pc := 67) (a := (-1)) dX8_layWay_67 (by decide) ?_
      exact JO_sub (l_sub_some (l_sub_some (l_sub_some (l_sub_some (l_sub_none (l_sub_some (l_sub_none (l_sub_nil)))))))) (w_X8_layWay_68 G d t ht _ (w_X8_layWay_71 G d t ht _ (hk11)) x2 x3 x5 (-1) x4 σ)
    · refine JO_iconst (pc := 63) (a := 1) dX8_layWay_63 (by decide) ?_
      refine JO_goto (pc := 64) (tgt := 68) dX8_layWay_64 (by decide) ?_
      exact JO_sub (l_sub_some (l_sub_some (l_sub_some (l_sub_some (l_sub_none (l_sub_some (l_sub_none (l_sub_nil)))))))) (w_X8_layWay_68 G d t ht _ (w_X8_layWay_71 G d t ht _ (hk11)) x2 x3 x5 1 x4 σ)
set_option maxHeartbeats 4000000 in
set_option maxRecDepth 100000 in
theorem w_X8_layWay_11 (G : JG) (d : Nat) (t : Nat) (ht : isTown t) : ∀ (n : Nat) (x2 : Int32) (x3 : Int32) (x4 : Int32) (x5 : Int32) (σ : Mem), JO G mX8_layWay (d + 1) 11 [some (.ref (G.1 + off 114)), some (.ref (G.1 + off t)), some (.int x2), some (.int x3), some (.int x4), some (.int x5), none] [] σ rV (X8_layWay_11 t n x2 x3 x4 x5 σ) := by
  intro n
  induction n with
  | zero =>
    intro x2 x3 x4 x5 σ
    exact JO_none
  | succ n ih =>
    intro x2 x3 x4 x5 σ
    rw [X8_layWay_11]
    refine JO_iload (pc := 11) dX8_layWay_11 rfl ?_
    refine JO_aload_n (pc := 13) dX8_layWay_13 rfl ?_
    refine JO_getI (pc := 14) fl_X8_54 rfl (fkTown_day ht) dX8_layWay_14 ?_
    refine JO_icmp_ge (pc := 17) (tgt := 91) dX8_layWay_17 (by decide) ?_ ?_
    · exact JO_retv (pc := 91) rfl dX8_layWay_91
    · refine JO_aload_n (pc := 20) dX8_layWay_20 rfl ?_
      refine JO_iload_n (pc := 21) dX8_layWay_21 rfl ?_
      refine JO_iload (pc := 22) dX8_layWay_22 rfl ?_
      refine JO_callVi (pc := 24) [.int x2, .int x5] lk_X8_57 rfl (ci := 10) rfl (shTown ht) (w_X10_rests G d t ht x2 x5 σ) rfl rfl (Nat.le_of_ble_eq_true rfl) dX8_layWay_24 (fun r3 => ?_)
      refine JO_if_eq (pc := 27) (tgt := 39) dX8_layWay_27 (by decide) ?_ ?_
      · refine JO_aload_n (pc := 39) dX8_layWay_39 rfl ?_
        refine JO_getR (pc := 40) fl_X8_51 rfl (fkTown_door ht) dX8_layWay_40 ?_
        refine JO_iload_n (pc := 43) dX8_layWay_43 rfl ?_
        refine JO_iald (pc := 44) (akTown_door ht) dX8_layWay_44 ?_
        exact JO_sub (l_sub_some (l_sub_some (l_sub_some (l_sub_some (l_sub_some (l_sub_some (l_sub_none (l_sub_nil)))))))) (w_X8_layWay_45 G d t ht _ (ih) x2 x3 x4 x5 (r3.2.1 (t + 1) x3.toNatClampNeg) r3.2)
      · refine JO_aload_n (pc := 30) dX8_layWay_30 rfl ?_
        refine JO_getR (pc := 31) fl_X8_51 rfl (fkTown_door ht) dX8_layWay_31 ?_
        refine JO_iload_n (pc := 34) dX8_layWay_34 rfl ?_
        refine JO_iald (pc := 35) (akTown_door ht) dX8_layWay_35 ?_
        refine JO_goto (pc := 36) (tgt := 45) dX8_layWay_36 (by decide) ?_
        exact JO_sub (l_sub_some (l_sub_some (l_sub_some (l_sub_some (l_sub_some (l_sub_some (l_sub_none (l_sub_nil)))))))) (w_X8_layWay_45 G d t ht _ (ih) x2 x3 x4 x5 (r3.2.1 (t + 1) x2.toNatClampNeg) r3.2)
set_option maxHeartbeats 4000000 in
set_option maxRecDepth 100000 in
theorem w_X8_layWay (G : JG) (d : Nat) (t : Nat) (ht : isTown t) (x2 : Int32) (x3 : Int32) (σ : Mem) : JS G mX8_layWay (d + 1) [.ref (G.1 + off 114), .ref (G.1 + off t), .int x2, .int x3] σ rV (X8_layWay t x2 x3 σ) := by
  refine JS_of 3 (by decide +kernel) (Nat.le_of_ble_eq_true rfl) (L := [some (.ref (G.1 + off 114)), some (.ref (G.1 + off t)), some (.int x2), some (.int x3), none, none, none]) rfl ?_
  unfold X8_layWay
  refine JO_aload_n (pc := 0) dX8_layWay_0 rfl ?_
  refine JO_getR (pc := 1) fl_X8_51 rfl (fkTown_door ht) dX8_layWay_1 ?_
  refine JO_iload_n (pc := 4) dX8_layWay_4 rfl ?_
  refine JO_iald (pc := 5) (akTown_door ht) dX8_layWay_5 ?_
  refine JO_nm (fun v1 => ?_)
  refine JO_istore (pc := 6) (L' := [some (.ref (G.1 + off 114)), some (.ref (G.1 + off t)), some (.int x2), some (.int x3), some (.int v1), none, none]) dX8_layWay_6 rfl rfl rfl ?_
  refine JO_iconst (pc := 8) (a := 0) dX8_layWay_8 (by decide) ?_
  refine JO_nm (fun v2 => ?_)
  refine JO_istore (pc := 9) (L' := [some (.ref (G.1 + off 114)), some (.ref (G.1 + off t)), some (.int x2), some (.int x3), some (.int v1), some (.int v2), none]) dX8_layWay_9 rfl rfl rfl ?_
  exact JO_sub (l_sub_some (l_sub_some (l_sub_some (l_sub_some (l_sub_some (l_sub_some (l_sub_none (l_sub_nil)))))))) (w_X8_layWay_11 G d t ht fu x2 x3 v1 v2 σ)
set_option maxHeartbeats 4000000 in
set_option maxRecDepth 100000 in
theorem w_X8_isFitting_45 (G : JG) (d : Nat) (k50 : Int32 → Int32 → Int32 → Int32 → Int32 → Mem → Option (Int32 × Mem)) (hk50 : ∀ (x1 : Int32) (x2 : Int32) (x3 : Int32) (x4 : Int32) (s0 : Int32) (σ : Mem), JO G mX8_isFitting d 50 [some (.ref (G.1 + off 114)), some (.int x1), some (.int x2), some (.int x3), some (.int x4), none] [.int s0] σ rI (k50 x1 x2 x3 x4 s0 σ)) : ∀ (x1 : Int32) (x2 : Int32) (x3 : Int32) (x4 : Int32) (σ : Mem), JO G mX8_isFitting d 45 [some (.ref (G.1 + off 114)), some (.int x1), some (.int x2), some (.int x3), some (.int x4), none] [] σ rI (X8_isFitting_45 k50 x1 x2 x3 x4 σ) := by
  intro x1 x2 x3 x4 σ
  unfold X8_isFitting_45
  refine JO_iconst (pc := 45) (a := 1) dX8_isFitting_45 (by decide) ?_
  refine JO_goto (pc := 46) (tgt := 50) dX8_isFitting_46 (by decide) ?_
  exact JO_sub (l_sub_some (l_sub_some (l_sub_some (l_sub_some (l_sub_some (l_sub_none (l_sub_nil))))))) (hk50 x1 x2 x3 x4 1 σ)
set_option maxHeartbeats 4000000 in
set_option maxRecDepth 100000 in
theorem w_X8_isFitting_97 (G : JG) (d : Nat) (k3 : Int32 → Int32 → Int32 → Int32 → Mem → Option (Int32 × Mem)) (hk3 : ∀ (x1 : Int32) (x2 : Int32) (x3 : Int32) (x4 : Int32) (σ : Mem), JO G mX8_isFitting d 3 [some (.ref (G.1 + off 114)), some (.int x1), some (.int x2), some (.int x3), some (.int x4), none] [] σ rI (k3 x1 x2 x3 x4 σ)) : ∀ (x1 : Int32) (x2 : Int32) (x3 : Int32) (x4 : Int32) (σ : Mem), JO G mX8_isFitting d 97 [some (.ref (G.1 + off 114)), some (.int x1), some (.int x2), some (.int x3), some (.int x4), none] [] σ rI (X8_isFitting_97 k3 x1 x2 x3 x4 σ) := by
  intro x1 x2 x3 x4 σ
  unfold X8_isFitting_97
  refine JO_inc (pc := 97) (b := 1) (L' := fun v2 => [some (.ref (G.1 + off 114)), some (.int x1), some (.int x2), some (.int x3), some (.int v2), none]) dX8_isFitting_97 rfl rfl (by decide) rfl (fun _ => rfl) (fun v2 => ?_)
  refine JO_goto (pc := 100) (tgt := 3) dX8_isFitting_100 (by decide) ?_
  exact JO_sub (l_sub_some (l_sub_some (l_sub_some (l_sub_some (l_sub_some (l_sub_none (l_sub_nil))))))) (hk3 x1 x2 x3 v2 σ)
set_option maxHeartbeats 4000000 in
set_option maxRecDepth 100000 in
theorem w_X8_isFitting_49 (G : JG) (d : Nat) (k50 : Int32 → Int32 → Int32 → Int32 → Int32 → Mem → Option (Int32 × Mem)) (hk50 : ∀ (x1 : Int32) (x2 : Int32) (x3 : Int32) (x4 : Int32) (s0 : Int32) (σ : Mem), JO G mX8_isFitting d 50 [some (.ref (G.1 + off 114)), some (.int x1), some (.int x2), some (.int x3), some (.int x4), none] [.int s0] σ rI (k50 x1 x2 x3 x4 s0 σ)) : ∀ (x1 : Int32) (x2 : Int32) (x3 : Int32) (x4 : Int32) (σ : Mem), JO G mX8_isFitting d 49 [some (.ref (G.1 + off 114)), some (.int x1), some (.int x2), some (.int x3), some (.int x4), none] [] σ rI (X8_isFitting_49 k50 x1 x2 x3 x4 σ) := by
  intro x1 x2 x3 x4 σ
  unfold X8_isFitting_49
  refine JO_iconst (pc := 49) (a := 0) dX8_isFitting_49 (by decide) ?_
  exact JO_sub (l_sub_some (l_sub_some (l_sub_some (l_sub_some (l_sub_some (l_sub_none (l_sub_nil))))))) (hk50 x1 x2 x3 x4 0 σ)
set_option maxHeartbeats 4000000 in
set_option maxRecDepth 100000 in
theorem w_X8_isFitting_50 (G : JG) (d : Nat) (k3 : Int32 → Int32 → Int32 → Int32 → Mem → Option (Int32 × Mem)) (hk3 : ∀ (x1 : Int32) (x2 : Int32) (x3 : Int32) (x4 : Int32) (σ : Mem), JO G mX8_isFitting d 3 [some (.ref (G.1 + off 114)), some (.int x1), some (.int x2), some (.int x3), some (.int x4), none] [] σ rI (k3 x1 x2 x3 x4 σ)) : ∀ (x1 : Int32) (x2 : Int32) (x3 : Int32) (x4 : Int32) (s0 : Int32) (σ : Mem), JO G mX8_isFitting d 50 [some (.ref (G.1 + off 114)), some (.int x1), some (.int x2), some (.int x3), some (.int x4), none] [.int s0] σ rI (X8_isFitting_50 k3 x1 x2 x3 x4 s0 σ) := by
  intro x1 x2 x3 x4 s0 σ
  unfold X8_isFitting_50
  refine JO_istore (pc := 50) (L' := [some (.ref (G.1 + off 114)), some (.int x1), some (.int x2), some (.int x3), some (.int x4), some (.int s0)]) dX8_isFitting_50 rfl rfl rfl ?_
  refine JO_iload (pc := 52) dX8_isFitting_52 rfl ?_
  refine JO_if_eq (pc := 54) (tgt := 97) dX8_isFitting_54 (by decide) ?_ ?_
  · exact JO_sub (l_sub_some (l_sub_some (l_sub_some (l_sub_some (l_sub_some (l_sub_none (l_sub_nil))))))) (w_X8_isFitting_97 G d _ (hk3) x1 x2 x3 x4 σ)
  · refine JO_aload_n (pc := 57) dX8_isFitting_57 rfl ?_
    refine JO_getR (pc := 58) fl_X8_11 rfl fkX8_person dX8_isFitting_58 ?_
    refine JO_iload (pc := 61) dX8_isFitting_61 rfl ?_
    refine JO_iald (pc := 63) akX8_person dX8_isFitting_63 ?_
    refine JO_iload_n (pc := 64) dX8_isFitting_64 rfl ?_
    refine JO_icmp_ne (pc := 65) (tgt := 97) dX8_isFitting_65 (by decide) ?_ ?_
    · exact JO_sub (l_sub_some (l_sub_some (l_sub_some (l_sub_some (l_sub_some (l_sub_none (l_sub_nil))))))) (w_X8_isFitting_97 G d _ (hk3) x1 x2 x3 x4 σ)
    · refine JO_aload_n (pc := 68) dX8_isFitting_68 rfl ?_
      refine JO_getR (pc := 69) fl_X8_27 rfl fkX8_ways dX8_isFitting_69 ?_
      refine JO_iload_n (pc := 72) dX8_isFitting_72 rfl ?_
      refine JO_bipush (pc := 73) (a := 24) dX8_isFitting_73 (by decide) ?_
      refine JO_imul (pc := 75) dX8_isFitting_75 ?_
      refine JO_aload_n (pc := 76) dX8_isFitting_76 rfl ?_
      refine JO_getR (pc := 77) fl_X8_15 rfl fkX8_hour dX8_isFitting_77 ?_
      refine JO_iload (pc := 80) dX8_isFitting_80 rfl ?_
      refine JO_iald (pc := 82) akX8_hour dX8_isFitting_82 ?_
      refine JO_iadd (pc := 83) dX8_isFitting_83 ?_
      refine JO_iald (pc := 84) akX8_ways dX8_isFitting_84 ?_
      refine JO_aload_n (pc := 85) dX8_isFitting_85 rfl ?_
      refine JO_getR (pc := 86) fl_X8_18 rfl fkX8_place dX8_isFitting_86 ?_
      refine JO_iload (pc := 89) dX8_isFitting_89 rfl ?_
      refine JO_iald (pc := 91) akX8_place dX8_isFitting_91 ?_
      refine JO_icmp_eq (pc := 92) (tgt := 97) dX8_isFitting_92 (by decide) ?_ ?_
      · exact JO_sub (l_sub_some (l_sub_some (l_sub_some (l_sub_some (l_sub_some (l_sub_none (l_sub_nil))))))) (w_X8_isFitting_97 G d _ (hk3) x1 x2 x3 x4 σ)
      · refine JO_iconst (pc := 95) (a := 0) dX8_isFitting_95 (by decide) ?_
        exact JO_retzc (pc := 96) (by decide) rfl dX8_isFitting_96
set_option maxHeartbeats 4000000 in
set_option maxRecDepth 100000 in
theorem w_X8_isFitting_3 (G : JG) (d : Nat) : ∀ (n : Nat) (x1 : Int32) (x2 : Int32) (x3 : Int32) (x4 : Int32) (σ : Mem), JO G mX8_isFitting d 3 [some (.ref (G.1 + off 114)), some (.int x1), some (.int x2), some (.int x3), some (.int x4), none] [] σ rI (X8_isFitting_3 n x1 x2 x3 x4 σ) := by
  intro n
  induction n with
  | zero =>
    intro x1 x2 x3 x4 σ
    exact JO_none
  | succ n ih =>
    intro x1 x2 x3 x4 σ
    rw [X8_isFitting_3]
    refine JO_iload (pc := 3) dX8_isFitting_3 rfl ?_
    refine JO_aload_n (pc := 5) dX8_isFitting_5 rfl ?_
    refine JO_getI (pc := 6) fl_X8_30 rfl fkX8_count dX8_isFitting_6 ?_
    refine JO_icmp_ge (pc := 9) (tgt := 103) dX8_isFitting_9 (by decide) ?_ ?_
    · refine JO_iconst (pc := 103) (a := 1) dX8_isFitting_103 (by decide) ?_
      exact JO_retzc (pc := 104) (by decide) rfl dX8_isFitting_104
    · refine JO_aload_n (pc := 12) dX8_isFitting_12 rfl ?_
      refine JO_getR (pc := 13) fl_X8_21 rfl fkX8_toldAt dX8_isFitting_13 ?_
      refine JO_iload (pc := 16) dX8_isFitting_16 rfl ?_
      refine JO_iald (pc := 18) akX8_toldAt dX8_isFitting_18 ?_
      refine JO_iload_n (pc := 19) dX8_isFitting_19 rfl ?_
      refine JO_icmp_gt (pc := 20) (tgt := 49) dX8_isFitting_20 (by decide) ?_ ?_
      · exact JO_sub (l_sub_some (l_sub_some (l_sub_some (l_sub_some (l_sub_some (l_sub_none (l_sub_nil))))))) (w_X8_isFitting_49 G d _ (w_X8_isFitting_50 G d _ (ih)) x1 x2 x3 x4 σ)
      · refine JO_aload_n (pc := 23) dX8_isFitting_23 rfl ?_
        refine JO_getR (pc := 24) fl_X8_24 rfl fkX8_untoldAt dX8_isFitting_24 ?_
        refine JO_iload (pc := 27) dX8_isFitting_27 rfl ?_
        refine JO_iald (pc := 29) akX8_untoldAt dX8_isFitting_29 ?_
        refine JO_iconst (pc := 30) (a := (-1)) dX8_isFitting_30 (by decide) ?_
        refine JO_icmp_eq (pc := 31) (tgt := 45) dX8_isFitting_31 (by decide) ?_ ?_
        · exact JO_sub (l_sub_some (l_sub_some (l_sub_some (l_sub_some (l_sub_some (l_sub_none (l_sub_nil))))))) (w_X8_isFitting_45 G d _ (w_X8_isFitting_50 G d _ (ih)) x1 x2 x3 x4 σ)
        · refine JO_aload_n (pc := 34) dX8_isFitting_34 rfl ?_
          refine JO_getR (pc := 35) fl_X8_24 rfl fkX8_untoldAt dX8_isFitting_35 ?_
          refine JO_iload (pc := 38) dX8_isFitting_38 rfl ?_
          refine JO_iald (pc := 40) akX8_untoldAt dX8_isFitting_40 ?_
          refine JO_iload_n (pc := 41) dX8_isFitting_41 rfl ?_
          refine JO_icmp_le (pc := 42) (tgt := 49) dX8_isFitting_42 (by decide) ?_ ?_
          · exact JO_sub (l_sub_some (l_sub_some (l_sub_some (l_sub_some (l_sub_some (l_sub_none (l_sub_nil))))))) (w_X8_isFitting_49 G d _ (w_X8_isFitting_50 G d _ (ih)) x1 x2 x3 x4 σ)
          · exact JO_sub (l_sub_some (l_sub_some (l_sub_some (l_sub_some (l_sub_some (l_sub_none (l_sub_nil))))))) (w_X8_isFitting_45 G d _ (w_X8_isFitting_50 G d _ (ih)) x1 x2 x3 x4 σ)
set_option maxHeartbeats 4000000 in
set_option maxRecDepth 100000 in
theorem w_X8_isFitting (G : JG) (d : Nat) (x1 : Int32) (x2 : Int32) (x3 : Int32) (σ : Mem) : JS G mX8_isFitting d [.ref (G.1 + off 114), .int x1, .int x2, .int x3] σ rI (X8_isFitting x1 x2 x3 σ) := by
  refine JS_of 2 (by decide +kernel) (Nat.le_of_ble_eq_true rfl) (L := [some (.ref (G.1 + off 114)), some (.int x1), some (.int x2), some (.int x3), none, none]) rfl ?_
  unfold X8_isFitting
  refine JO_iconst (pc := 0) (a := 0) dX8_isFitting_0 (by decide) ?_
  refine JO_nm (fun v1 => ?_)
  refine JO_istore (pc := 1) (L' := [some (.ref (G.1 + off 114)), some (.int x1), some (.int x2), some (.int x3), some (.int v1), none]) dX8_isFitting_1 rfl rfl rfl ?_
  exact JO_sub (l_sub_some (l_sub_some (l_sub_some (l_sub_some (l_sub_some (l_sub_none (l_sub_nil))))))) (w_X8_isFitting_3 G d fu x1 x2 x3 v1 σ)
set_option maxHeartbeats 4000000 in
set_option maxRecDepth 100000 in
theorem w_X8_fittingAims_43 (G : JG) (d : Nat) (t : Nat) (ht : isTown t) (k6 : Int32 → Int32 → Int32 → Int32 → Mem → Option (Int32 × Mem)) (hk6 : ∀ (x2 : Int32) (x3 : Int32) (x4 : Int32) (x5 : Int32) (σ : Mem), JO G mX8_fittingAims (d + 2) 6 [some (.ref (G.1 + off 114)), some (.ref (G.1 + off t)), some (.int x2), some (.int x3), some (.int x4), some (.int x5)] [] σ rI (k6 x2 x3 x4 x5 σ)) : ∀ (x2 : Int32) (x3 : Int32) (x4 : Int32) (x5 : Int32) (σ : Mem), JO G mX8_fittingAims (d + 2) 43 [some (.ref (G.1 + off 114)), some (.ref (G.1 + off t)), some (.int x2), some (.int x3), some (.int x4), some (.int x5)] [] σ rI (X8_fittingAims_43 t k6 x2 x3 x4 x5 σ) := by
  intro x2 x3 x4 x5 σ
  unfold X8_fittingAims_43
  refine JO_inc (pc := 43) (b := 1) (L' := fun v6 => [some (.ref (G.1 + off 114)), some (.ref (G.1 + off t)), some (.int x2), some (.int x3), some (.int x4), some (.int v6)]) dX8_fittingAims_43 rfl rfl (by decide) rfl (fun _ => rfl) (fun v6 => ?_)
  refine JO_goto (pc := 46) (tgt := 6) dX8_fittingAims_46 (by decide) ?_
  exact JO_sub (l_sub_some (l_sub_some (l_sub_some (l_sub_some (l_sub_some (l_sub_some (l_sub_nil))))))) (hk6 x2 x3 x4 v6 σ)
set_option maxHeartbeats 4000000 in
set_option maxRecDepth 100000 in
theorem w_X8_fittingAims_6 (G : JG) (d : Nat) (t : Nat) (ht : isTown t) : ∀ (n : Nat) (x2 : Int32) (x3 : Int32) (x4 : Int32) (x5 : Int32) (σ : Mem), JO G mX8_fittingAims (d + 2) 6 [some (.ref (G.1 + off 114)), some (.ref (G.1 + off t)), some (.int x2), some (.int x3), some (.int x4), some (.int x5)] [] σ rI (X8_fittingAims_6 t n x2 x3 x4 x5 σ) := by
  intro n
  induction n with
  | zero =>
    intro x2 x3 x4 x5 σ
    exact JO_none
  | succ n ih =>
    intro x2 x3 x4 x5 σ
    rw [X8_fittingAims_6]
    refine JO_iload (pc := 6) dX8_fittingAims_6 rfl ?_
    refine JO_aload_n (pc := 8) dX8_fittingAims_8 rfl ?_
    refine JO_getI (pc := 9) fl_X8_38 rfl (fkTown_people ht) dX8_fittingAims_9 ?_
    refine JO_icmp_ge (pc := 12) (tgt := 49) dX8_fittingAims_12 (by decide) ?_ ?_
    · refine JO_iload (pc := 49) dX8_fittingAims_49 rfl ?_
      exact JO_reti (pc := 51) rfl dX8_fittingAims_51
    · refine JO_aload_n (pc := 15) dX8_fittingAims_15 rfl ?_
      refine JO_aload_n (pc := 16) dX8_fittingAims_16 rfl ?_
      refine JO_iload_n (pc := 17) dX8_fittingAims_17 rfl ?_
      refine JO_iload (pc := 18) dX8_fittingAims_18 rfl ?_
      refine JO_callVv (pc := 20) [.ref (G.1 + off t), .int x2, .int x5] lk_X8_43 rfl (ci := 8) rfl shX8 (w_X8_layWay G d t ht x2 x5 σ) rfl rfl (Nat.le_of_ble_eq_true rfl) dX8_fittingAims_20 (fun σ3 => ?_)
      refine JO_aload_n (pc := 23) dX8_fittingAims_23 rfl ?_
      refine JO_iload_n (pc := 24) dX8_fittingAims_24 rfl ?_
      refine JO_iload (pc := 25) dX8_fittingAims_25 rfl ?_
      refine JO_iload_n (pc := 27) dX8_fittingAims_27 rfl ?_
      refine JO_callVi (pc := 28) [.int x2, .int x5, .int x3] lk_X8_47 rfl (ci := 8) rfl shX8 (w_X8_isFitting G (d + 1) x2 x5 x3 σ3) rfl rfl (Nat.le_of_ble_eq_true rfl) dX8_fittingAims_28 (fun r4 => ?_)
      refine JO_if_eq (pc := 31) (tgt := 43) dX8_fittingAims_31 (by decide) ?_ ?_
      · exact JO_sub (l_sub_some (l_sub_some (l_sub_some (l_sub_some (l_sub_some (l_sub_some (l_sub_nil))))))) (w_X8_fittingAims_43 G d t ht _ (ih) x2 x3 x4 x5 r4.2)
      · refine JO_iload (pc := 34) dX8_fittingAims_34 rfl ?_
        refine JO_iconst (pc := 36) (a := 1) dX8_fittingAims_36 (by decide) ?_
        refine JO_iload (pc := 37) dX8_fittingAims_37 rfl ?_
        refine JO_ishl (pc := 39) dX8_fittingAims_39 ?_
        refine JO_ior (pc := 40) dX8_fittingAims_40 ?_
        refine JO_nm (fun v5 => ?_)
        refine JO_istore (pc := 41) (L' := [some (.ref (G.1 + off 114)), some (.ref (G.1 + off t)), some (.int x2), some (.int x3), some (.int v5), some (.int x5)]) dX8_fittingAims_41 rfl rfl rfl ?_
        exact JO_sub (l_sub_some (l_sub_some (l_sub_some (l_sub_some (l_sub_some (l_sub_some (l_sub_nil))))))) (w_X8_fittingAims_43 G d t ht _ (ih) x2 x3 v5 x5 r4.2)
set_option maxHeartbeats 4000000 in
set_option maxRecDepth 100000 in
theorem w_X8_fittingAims (G : JG) (d : Nat) (t : Nat) (ht : isTown t) (x2 : Int32) (x3 : Int32) (σ : Mem) : JS G mX8_fittingAims (d + 2) [.ref (G.1 + off 114), .ref (G.1 + off t), .int x2, .int x3] σ rI (X8_fittingAims t x2 x3 σ) := by
  refine JS_of 2 (by decide +kernel) (Nat.le_of_ble_eq_true rfl) (L := [some (.ref (G.1 + off 114)), some (.ref (G.1 + off t)), some (.int x2), some (.int x3), none, none]) rfl ?_
  unfold X8_fittingAims
  refine JO_iconst (pc := 0) (a := 0) dX8_fittingAims_0 (by decide) ?_
  refine JO_nm (fun v1 => ?_)
  refine JO_istore (pc := 1) (L' := [some (.ref (G.1 + off 114)), some (.ref (G.1 + off t)), some (.int x2), some (.int x3), some (.int v1), none]) dX8_fittingAims_1 rfl rfl rfl ?_
  refine JO_iconst (pc := 3) (a := 0) dX8_fittingAims_3 (by decide) ?_
  refine JO_nm (fun v2 => ?_)
  refine JO_istore (pc := 4) (L' := [some (.ref (G.1 + off 114)), some (.ref (G.1 + off t)), some (.int x2), some (.int x3), some (.int v1), some (.int v2)]) dX8_fittingAims_4 rfl rfl rfl ?_
  exact JO_sub (l_sub_some (l_sub_some (l_sub_some (l_sub_some (l_sub_some (l_sub_some (l_sub_nil))))))) (w_X8_fittingAims_6 G d t ht fu x2 x3 v1 v2 σ)
set_option maxHeartbeats 4000000 in
set_option maxRecDepth 100000 in
theorem w_X8_mostAtOnePlace_68 (G : JG) (d : Nat) (k18 : Int32 → Int32 → Int32 → Int32 → Int32 → Int32 → Int32 → Mem → Option (Int32 × Mem)) (hk18 : ∀ (x1 : Int32) (x2 : Int32) (x3 : Int32) (x4 : Int32) (x5 : Int32) (x6 : Int32) (x7 : Int32) (σ : Mem), JO G mX8_mostAtOnePlace (d + 1) 18 [some (.ref (G.1 + off 114)), some (.int x1), some (.int x2), some (.int x3), some (.int x4), some (.int x5), some (.int x6), some (.int x7)] [] σ rI (k18 x1 x2 x3 x4 x5 x6 x7 σ)) : ∀ (x1 : Int32) (x2 : Int32) (x3 : Int32) (x4 : Int32) (x5 : Int32) (x6 : Int32) (x7 : Int32) (σ : Mem), JO G mX8_mostAtOnePlace (d + 1) 68 [some (.ref (G.1 + off 114)), some (.int x1), some (.int x2), some (.int x3), some (.int x4), some (.int x5), some (.int x6), some (.int x7)] [] σ rI (X8_mostAtOnePlace_68 k18 x1 x2 x3 x4 x5 x6 x7 σ) := by
  intro x1 x2 x3 x4 x5 x6 x7 σ
  unfold X8_mostAtOnePlace_68
  refine JO_inc (pc := 68) (b := 1) (L' := fun v8 => [some (.ref (G.1 + off 114)), some (.int x1), some (.int x2), some (.int x3), some (.int x4), some (.int x5), some (.int x6), some (.int v8)]) dX8_mostAtOnePlace_68 rfl rfl (by decide) rfl (fun _ => rfl) (fun v8 => ?_)
  refine JO_goto (pc := 71) (tgt := 18) dX8_mostAtOnePlace_71 (by decide) ?_
  exact JO_sub (l_sub_some (l_sub_some (l_sub_some (l_sub_some (l_sub_some (l_sub_some (l_sub_some (l_sub_some (l_sub_nil))))))))) (hk18 x1 x2 x3 x4 x5 x6 v8 σ)
set_option maxHeartbeats 4000000 in
set_option maxRecDepth 100000 in
theorem w_X8_mostAtOnePlace_18 (G : JG) (d : Nat) (k6 : Int32 → Int32 → Int32 → Int32 → Int32 → Mem → Option (Int32 × Mem)) (hk6 : ∀ (x1 : Int32) (x2 : Int32) (x3 : Int32) (x4 : Int32) (x5 : Int32) (σ : Mem), JO G mX8_mostAtOnePlace (d + 1) 6 [some (.ref (G.1 + off 114)), some (.int x1), some (.int x2), some (.int x3), some (.int x4), some (.int x5), none, none] [] σ rI (k6 x1 x2 x3 x4 x5 σ)) : ∀ (n : Nat) (x1 : Int32) (x2 : Int32) (x3 : Int32) (x4 : Int32) (x5 : Int32) (x6 : Int32) (x7 : Int32) (σ : Mem), JO G mX8_mostAtOnePlace (d + 1) 18 [some (.ref (G.1 + off 114)), some (.int x1), some (.int x2), some (.int x3), some (.int x4), some (.int x5), some (.int x6), some (.int x7)] [] σ rI (X8_mostAtOnePlace_18 k6 n x1 x2 x3 x4 x5 x6 x7 σ) := by
  intro n
  induction n with
  | zero =>
    intro x1 x2 x3 x4 x5 x6 x7 σ
    exact JO_none
  | succ n ih =>
    intro x1 x2 x3 x4 x5 x6 x7 σ
    rw [X8_mostAtOnePlace_18]
    refine JO_iload (pc := 18) dX8_mostAtOnePlace_18 rfl ?_
    refine JO_iload_n (pc := 20) dX8_mostAtOnePlace_20 rfl ?_
    refine JO_icmp_ge (pc := 21) (tgt := 74) dX8_mostAtOnePlace_21 (by decide) ?_ ?_
    · refine JO_iload (pc := 74) dX8_mostAtOnePlace_74 rfl ?_
      refine JO_iload (pc := 76) dX8_mostAtOnePlace_76 rfl ?_
      refine JO_mmax (pc := 78) lm_X8_75 rfl (Nat.le_of_ble_eq_true rfl) dX8_mostAtOnePlace_78 ?_
      refine JO_nm (fun v5 => ?_)
      refine JO_istore (pc := 81) (L' := [some (.ref (G.1 + off 114)), some (.int x1), some (.int x2), some (.int x3), some (.int v5), some (.int x5), some (.int x6), some (.int x7)]) dX8_mostAtOnePlace_81 rfl rfl rfl ?_
      refine JO_inc (pc := 83) (b := 1) (L' := fun v6 => [some (.ref (G.1 + off 114)), some (.int x1), some (.int x2), some (.int x3), some (.int v5), some (.int v6), some (.int x6), some (.int x7)]) dX8_mostAtOnePlace_83 rfl rfl (by decide) rfl (fun _ => rfl) (fun v6 => ?_)
      refine JO_goto (pc := 86) (tgt := 6) dX8_mostAtOnePlace_86 (by decide) ?_
      exact JO_sub (l_sub_some (l_sub_some (l_sub_some (l_sub_some (l_sub_some (l_sub_some (l_sub_none (l_sub_none (l_sub_nil))))))))) (hk6 x1 x2 x3 v5 v6 σ)
    · refine JO_iload_n (pc := 24) dX8_mostAtOnePlace_24 rfl ?_
      refine JO_iload (pc := 25) dX8_mostAtOnePlace_25 rfl ?_
      refine JO_ishr (pc := 27) dX8_mostAtOnePlace_27 ?_
      refine JO_iload_n (pc := 28) dX8_mostAtOnePlace_28 rfl ?_
      refine JO_iload (pc := 29) dX8_mostAtOnePlace_29 rfl ?_
      refine JO_ishr (pc := 31) dX8_mostAtOnePlace_31 ?_
      refine JO_iand (pc := 32) dX8_mostAtOnePlace_32 ?_
      refine JO_iconst (pc := 33) (a := 1) dX8_mostAtOnePlace_33 (by decide) ?_
      refine JO_iand (pc := 34) dX8_mostAtOnePlace_34 ?_
      refine JO_if_eq (pc := 35) (tgt := 68) dX8_mostAtOnePlace_35 (by decide) ?_ ?_
      · exact JO_sub (l_sub_some (l_sub_some (l_sub_some (l_sub_some (l_sub_some (l_sub_some (l_sub_some (l_sub_some (l_sub_nil))))))))) (w_X8_mostAtOnePlace_68 G d _ (ih) x1 x2 x3 x4 x5 x6 x7 σ)
      · refine JO_aload_n (pc := 38) dX8_mostAtOnePlace_38 rfl ?_
        refine JO_getR (pc := 39) fl_X8_27 rfl fkX8_ways dX8_mostAtOnePlace_39 ?_
        refine JO_iload (pc := 42) dX8_mostAtOnePlace_42 rfl ?_
        refine JO_bipush (pc := 44) (a := 24) dX8_mostAtOnePlace_44 (by decide) ?_
        refine JO_imul (pc := 46) dX8_mostAtOnePlace_46 ?_
        refine JO_iload_n (pc := 47) dX8_mostAtOnePlace_47 rfl ?_
        refine JO_iadd (pc := 48) dX8_mostAtOnePlace_48 ?_
        refine JO_iald (pc := 49) akX8_ways dX8_mostAtOnePlace_49 ?_
        refine JO_aload_n (pc := 50) dX8_mostAtOnePlace_50 rfl ?_
        refine JO_getR (pc := 51) fl_X8_27 rfl fkX8_ways dX8_mostAtOnePlace_51 ?_
        refine JO_iload (pc := 54) dX8_mostAtOnePlace_54 rfl ?_
        refine JO_bipush (pc := 56) (a := 24) dX8_mostAtOnePlace_56 (by decide) ?_
        refine JO_imul (pc := 58) dX8_mostAtOnePlace_58 ?_
        refine JO_iload_n (pc := 59) dX8_mostAtOnePlace_59 rfl ?_
        refine JO_iadd (pc := 60) dX8_mostAtOnePlace_60 ?_
        refine JO_iald (pc := 61) akX8_ways dX8_mostAtOnePlace_61 ?_
        refine JO_icmp_ne (pc := 62) (tgt := 68) dX8_mostAtOnePlace_62 (by decide) ?_ ?_
        · exact JO_sub (l_sub_some (l_sub_some (l_sub_some (l_sub_some (l_sub_some (l_sub_some (l_sub_some (l_sub_some (l_sub_nil))))))))) (w_X8_mostAtOnePlace_68 G d _ (ih) x1 x2 x3 x4 x5 x6 x7 σ)
        · refine JO_inc (pc := 65) (b := 1) (L' := fun v7 => [some (.ref (G.1 + off 114)), some (.int x1), some (.int x2), some (.int x3), some (.int x4), some (.int x5), some (.int v7), some (.int x7)]) dX8_mostAtOnePlace_65 rfl rfl (by decide) rfl (fun _ => rfl) (fun v7 => ?_)
          exact JO_sub (l_sub_some (l_sub_some (l_sub_some (l_sub_some (l_sub_some (l_sub_some (l_sub_some (l_sub_some (l_sub_nil))))))))) (w_X8_mostAtOnePlace_68 G d _ (ih) x1 x2 x3 x4 x5 v7 x7 σ)
set_option maxHeartbeats 4000000 in
set_option maxRecDepth 100000 in
theorem w_X8_mostAtOnePlace_6 (G : JG) (d : Nat) : ∀ (n : Nat) (x1 : Int32) (x2 : Int32) (x3 : Int32) (x4 : Int32) (x5 : Int32) (σ : Mem), JO G mX8_mostAtOnePlace (d + 1) 6 [some (.ref (G.1 + off 114)), some (.int x1), some (.int x2), some (.int x3), some (.int x4), some (.int x5), none, none] [] σ rI (X8_mostAtOnePlace_6 n x1 x2 x3 x4 x5 σ) := by
  intro n
  induction n with
  | zero =>
    intro x1 x2 x3 x4 x5 σ
    exact JO_none
  | succ n ih =>
    intro x1 x2 x3 x4 x5 σ
    rw [X8_mostAtOnePlace_6]
    refine JO_iload (pc := 6) dX8_mostAtOnePlace_6 rfl ?_
    refine JO_iload_n (pc := 8) dX8_mostAtOnePlace_8 rfl ?_
    refine JO_icmp_ge (pc := 9) (tgt := 89) dX8_mostAtOnePlace_9 (by decide) ?_ ?_
    · refine JO_iload (pc := 89) dX8_mostAtOnePlace_89 rfl ?_
      exact JO_reti (pc := 91) rfl dX8_mostAtOnePlace_91
    · refine JO_iconst (pc := 12) (a := 0) dX8_mostAtOnePlace_12 (by decide) ?_
      refine JO_nm (fun v3 => ?_)
      refine JO_istore (pc := 13) (L' := [some (.ref (G.1 + off 114)), some (.int x1), some (.int x2), some (.int x3), some (.int x4), some (.int x5), some (.int v3), none]) dX8_mostAtOnePlace_13 rfl rfl rfl ?_
      refine JO_iconst (pc := 15) (a := 0) dX8_mostAtOnePlace_15 (by decide) ?_
      refine JO_nm (fun v4 => ?_)
      refine JO_istore (pc := 16) (L' := [some (.ref (G.1 + off 114)), some (.int x1), some (.int x2), some (.int x3), some (.int x4), some (.int x5), some (.int v3), some (.int v4)]) dX8_mostAtOnePlace_16 rfl rfl rfl ?_
      exact JO_sub (l_sub_some (l_sub_some (l_sub_some (l_sub_some (l_sub_some (l_sub_some (l_sub_some (l_sub_some (l_sub_nil))))))))) (w_X8_mostAtOnePlace_18 G d _ (ih) fu x1 x2 x3 x4 x5 v3 v4 σ)
set_option maxHeartbeats 4000000 in
set_option maxRecDepth 100000 in
theorem w_X8_mostAtOnePlace (G : JG) (d : Nat) (x1 : Int32) (x2 : Int32) (x3 : Int32) (σ : Mem) : JS G mX8_mostAtOnePlace (d + 1) [.ref (G.1 + off 114), .int x1, .int x2, .int x3] σ rI (X8_mostAtOnePlace x1 x2 x3 σ) := by
  refine JS_of 4 (by decide +kernel) (Nat.le_of_ble_eq_true rfl) (L := [some (.ref (G.1 + off 114)), some (.int x1), some (.int x2), some (.int x3), none, none, none, none]) rfl ?_
  unfold X8_mostAtOnePlace
  refine JO_iconst (pc := 0) (a := 0) dX8_mostAtOnePlace_0 (by decide) ?_
  refine JO_nm (fun v1 => ?_)
  refine JO_istore (pc := 1) (L' := [some (.ref (G.1 + off 114)), some (.int x1), some (.int x2), some (.int x3), some (.int v1), none, none, none]) dX8_mostAtOnePlace_1 rfl rfl rfl ?_
  refine JO_iconst (pc := 3) (a := 0) dX8_mostAtOnePlace_3 (by decide) ?_
  refine JO_nm (fun v2 => ?_)
  refine JO_istore (pc := 4) (L' := [some (.ref (G.1 + off 114)), some (.int x1), some (.int x2), some (.int x3), some (.int v1), some (.int v2), none, none]) dX8_mostAtOnePlace_4 rfl rfl rfl ?_
  exact JO_sub (l_sub_some (l_sub_some (l_sub_some (l_sub_some (l_sub_some (l_sub_some (l_sub_none (l_sub_none (l_sub_nil))))))))) (w_X8_mostAtOnePlace_6 G d fu x1 x2 x3 v1 v2 σ)
set_option maxHeartbeats 4000000 in
set_option maxRecDepth 100000 in
theorem w_X8_findHourToAsk_67 (G : JG) (d : Nat) (t : Nat) (ht : isTown t) (k79 : Int32 → Int32 → Mem → Option (Int32 × Mem)) (hk79 : ∀ (x4 : Int32) (x5 : Int32) (σ : Mem), JO G mX8_findHourToAsk (d + 3) 79 [some (.ref (G.1 + off 114)), some (.ref (G.1 + off t)), none, none, some (.int x4), some (.int x5), none] [] σ rI (k79 x4 x5 σ)) : ∀ (x4 : Int32) (x5 : Int32) (x6 : Int32) (σ : Mem), JO G mX8_findHourToAsk (d + 3) 67 [some (.ref (G.1 + off 114)), some (.ref (G.1 + off t)), none, none, some (.int x4), some (.int x5), some (.int x6)] [] σ rI (X8_findHourToAsk_67 t k79 x4 x5 x6 σ) := by
  intro x4 x5 x6 σ
  unfold X8_findHourToAsk_67
  refine JO_aload_n (pc := 67) dX8_findHourToAsk_67 rfl ?_
  refine JO_iload (pc := 68) dX8_findHourToAsk_68 rfl ?_
  refine JO_putI (pc := 70) fl_X8_65 rfl fkX8_hourToAsk dX8_findHourToAsk_70 (fun σ8 => ?_)
  refine JO_aload_n (pc := 73) dX8_findHourToAsk_73 rfl ?_
  refine JO_iload (pc := 74) dX8_findHourToAsk_74 rfl ?_
  refine JO_putI (pc := 76) fl_X8_68 rfl fkX8_leftAtMost dX8_findHourToAsk_76 (fun σ9 => ?_)
  exact JO_sub (l_sub_some (l_sub_some (l_sub_none (l_sub_none (l_sub_some (l_sub_some (l_sub_none (l_sub_nil)))))))) (hk79 x4 x5 σ9)
set_option maxHeartbeats 4000000 in
set_option maxRecDepth 100000 in
theorem w_X8_findHourToAsk_79 (G : JG) (d : Nat) (t : Nat) (ht : isTown t) (k22 : Int32 → Int32 → Mem → Option (Int32 × Mem)) (hk22 : ∀ (x4 : Int32) (x5 : Int32) (σ : Mem), JO G mX8_findHourToAsk (d + 3) 22 [some (.ref (G.1 + off 114)), some (.ref (G.1 + off t)), none, none, some (.int x4), some (.int x5), none] [] σ rI (k22 x4 x5 σ)) : ∀ (x4 : Int32) (x5 : Int32) (σ : Mem), JO G mX8_findHourToAsk (d + 3) 79 [some (.ref (G.1 + off 114)), some (.ref (G.1 + off t)), none, none, some (.int x4), some (.int x5), none] [] σ rI (X8_findHourToAsk_79 t k22 x4 x5 σ) := by
  intro x4 x5 σ
  unfold X8_findHourToAsk_79
  refine JO_inc (pc := 79) (b := 1) (L' := fun v10 => [some (.ref (G.1 + off 114)), some (.ref (G.1 + off t)), none, none, some (.int x4), some (.int v10), none]) dX8_findHourToAsk_79 rfl rfl (by decide) rfl (fun _ => rfl) (fun v10 => ?_)
  refine JO_goto (pc := 82) (tgt := 22) dX8_findHourToAsk_82 (by decide) ?_
  exact JO_sub (l_sub_some (l_sub_some (l_sub_none (l_sub_none (l_sub_some (l_sub_some (l_sub_none (l_sub_nil)))))))) (hk22 x4 v10 σ)
set_option maxHeartbeats 4000000 in
set_option maxRecDepth 100000 in
theorem w_X8_findHourToAsk_85 (G : JG) (d : Nat) (t : Nat) (ht : isTown t) : ∀ (x4 : Int32) (σ : Mem), JO G mX8_findHourToAsk (d + 3) 85 [none, none, none, none, some (.int x4), none, none] [] σ rI (X8_findHourToAsk_85 t x4 σ) := by
  intro x4 σ
  unfold X8_findHourToAsk_85
  refine JO_iload (pc := 85) dX8_findHourToAsk_85 rfl ?_
  refine JO_if_eq (pc := 87) (tgt := 94) dX8_findHourToAsk_87 (by decide) ?_ ?_
  · refine JO_iconst (pc := 94) (a := 0) dX8_findHourToAsk_94 (by decide) ?_
    exact JO_retzc (pc := 95) (by decide) rfl dX8_findHourToAsk_95
  · refine JO_iconst (pc := 90) (a := 1) dX8_findHourToAsk_90 (by decide) ?_
    refine JO_goto (pc := 91) (tgt := 95) dX8_findHourToAsk_91 (by decide) ?_
    exact JO_retzc (pc := 95) (by decide) rfl dX8_findHourToAsk_95
set_option maxHeartbeats 4000000 in
set_option maxRecDepth 100000 in
theorem w_X8_findHourToAsk_22 (G : JG) (d : Nat) (t : Nat) (ht : isTown t) : ∀ (n : Nat) (x4 : Int32) (x5 : Int32) (σ : Mem), JO G mX8_findHourToAsk (d + 3) 22 [some (.ref (G.1 + off 114)), some (.ref (G.1 + off t)), none, none, some (.int x4), some (.int x5), none] [] σ rI (X8_findHourToAsk_22 t n x4 x5 σ) := by
  intro n
  induction n with
  | zero =>
    intro x4 x5 σ
    exact JO_none
  | succ n ih =>
    intro x4 x5 σ
    rw [X8_findHourToAsk_22]
    refine JO_iload (pc := 22) dX8_findHourToAsk_22 rfl ?_
    refine JO_aload_n (pc := 24) dX8_findHourToAsk_24 rfl ?_
    refine JO_getI (pc := 25) fl_X8_54 rfl (fkTown_day ht) dX8_findHourToAsk_25 ?_
    refine JO_icmp_ge (pc := 28) (tgt := 85) dX8_findHourToAsk_28 (by decide) ?_ ?_
    · exact JO_sub (l_sub_none (l_sub_none (l_sub_none (l_sub_none (l_sub_some (l_sub_none (l_sub_none (l_sub_nil)))))))) (w_X8_findHourToAsk_85 G d t ht x4 σ)
    · refine JO_iload (pc := 31) dX8_findHourToAsk_31 rfl ?_
      refine JO_if_eq (pc := 33) (tgt := 85) dX8_findHourToAsk_33 (by decide) ?_ ?_
      · exact JO_sub (l_sub_none (l_sub_none (l_sub_none (l_sub_none (l_sub_some (l_sub_none (l_sub_none (l_sub_nil)))))))) (w_X8_findHourToAsk_85 G d t ht x4 σ)
      · refine JO_aload_n (pc := 36) dX8_findHourToAsk_36 rfl ?_
        refine JO_aload_n (pc := 37) dX8_findHourToAsk_37 rfl ?_
        refine JO_getI (pc := 38) fl_X8_38 rfl (fkTown_people ht) dX8_findHourToAsk_38 ?_
        refine JO_iload (pc := 41) dX8_findHourToAsk_41 rfl ?_
        refine JO_iload (pc := 43) dX8_findHourToAsk_43 rfl ?_
        refine JO_callVi (pc := 45) [.int (σ.1 t 12), .int x4, .int x5] lk_X8_71 rfl (ci := 8) rfl shX8 (w_X8_mostAtOnePlace G (d + 1) (σ.1 t 12) x4 x5 σ) rfl rfl (Nat.le_of_ble_eq_true rfl) dX8_findHourToAsk_45 (fun r6 => ?_)
        refine JO_nm (fun v7 => ?_)
        refine JO_istore (pc := 48) (L' := [some (.ref (G.1 + off 114)), some (.ref (G.1 + off t)), none, none, some (.int x4), some (.int x5), some (.int v7)]) dX8_findHourToAsk_48 rfl rfl rfl ?_
        refine JO_aload_n (pc := 50) dX8_findHourToAsk_50 rfl ?_
        refine JO_getI (pc := 51) fl_X8_65 rfl fkX8_hourToAsk dX8_findHourToAsk_51 ?_
        refine JO_iconst (pc := 54) (a := (-1)) dX8_findHourToAsk_54 (by decide) ?_
        refine JO_icmp_eq (pc := 55) (tgt := 67) dX8_findHourToAsk_55 (by decide) ?_ ?_
        · exact JO_sub (l_sub_some (l_sub_some (l_sub_none (l_sub_none (l_sub_some (l_sub_some (l_sub_some (l_sub_nil)))))))) (w_X8_findHourToAsk_67 G d t ht _ (w_X8_findHourToAsk_79 G d t ht _ (ih)) x4 x5 v7 r6.2)
        · refine JO_iload (pc := 58) dX8_findHourToAsk_58 rfl ?_
          refine JO_aload_n (pc := 60) dX8_findHourToAsk_60 rfl ?_
          refine JO_getI (pc := 61) fl_X8_68 rfl fkX8_leftAtMost dX8_findHourToAsk_61 ?_
          refine JO_icmp_ge (pc := 64) (tgt := 79) dX8_findHourToAsk_64 (by decide) ?_ ?_
          · exact JO_sub (l_sub_some (l_sub_some (l_sub_none (l_sub_none (l_sub_some (l_sub_some (l_sub_none (l_sub_nil)))))))) (w_X8_findHourToAsk_79 G d t ht _ (ih) x4 x5 r6.2)
          · exact JO_sub (l_sub_some (l_sub_some (l_sub_none (l_sub_none (l_sub_some (l_sub_some (l_sub_some (l_sub_nil)))))))) (w_X8_findHourToAsk_67 G d t ht _ (w_X8_findHourToAsk_79 G d t ht _ (ih)) x4 x5 v7 r6.2)
set_option maxHeartbeats 4000000 in
set_option maxRecDepth 100000 in
theorem w_X8_findHourToAsk (G : JG) (d : Nat) (t : Nat) (ht : isTown t) (x2 : Int32) (x3 : Int32) (σ : Mem) : JS G mX8_findHourToAsk (d + 3) [.ref (G.1 + off 114), .ref (G.1 + off t), .int x2, .int x3] σ rI (X8_findHourToAsk t x2 x3 σ) := by
  refine JS_of 3 (by decide +kernel) (Nat.le_of_ble_eq_true rfl) (L := [some (.ref (G.1 + off 114)), some (.ref (G.1 + off t)), some (.int x2), some (.int x3), none, none, none]) rfl ?_
  unfold X8_findHourToAsk
  refine JO_aload_n (pc := 0) dX8_findHourToAsk_0 rfl ?_
  refine JO_aload_n (pc := 1) dX8_findHourToAsk_1 rfl ?_
  refine JO_iload_n (pc := 2) dX8_findHourToAsk_2 rfl ?_
  refine JO_iload_n (pc := 3) dX8_findHourToAsk_3 rfl ?_
  refine JO_callVi (pc := 4) [.ref (G.1 + off t), .int x2, .int x3] lk_X8_61 rfl (ci := 8) rfl shX8 (w_X8_fittingAims G d t ht x2 x3 σ) rfl rfl (Nat.le_of_ble_eq_true rfl) dX8_findHourToAsk_4 (fun r1 => ?_)
  refine JO_nm (fun v2 => ?_)
  refine JO_istore (pc := 7) (L' := [some (.ref (G.1 + off 114)), some (.ref (G.1 + off t)), some (.int x2), some (.int x3), some (.int v2), none, none]) dX8_findHourToAsk_7 rfl rfl rfl ?_
  refine JO_aload_n (pc := 9) dX8_findHourToAsk_9 rfl ?_
  refine JO_iconst (pc := 10) (a := (-1)) dX8_findHourToAsk_10 (by decide) ?_
  refine JO_putI (pc := 11) fl_X8_65 rfl fkX8_hourToAsk dX8_findHourToAsk_11 (fun σ3 => ?_)
  refine JO_aload_n (pc := 14) dX8_findHourToAsk_14 rfl ?_
  refine JO_iconst (pc := 15) (a := (-1)) dX8_findHourToAsk_15 (by decide) ?_
  refine JO_putI (pc := 16) fl_X8_68 rfl fkX8_leftAtMost dX8_findHourToAsk_16 (fun σ4 => ?_)
  refine JO_iconst (pc := 19) (a := 0) dX8_findHourToAsk_19 (by decide) ?_
  refine JO_nm (fun v5 => ?_)
  refine JO_istore (pc := 20) (L' := [some (.ref (G.1 + off 114)), some (.ref (G.1 + off t)), some (.int x2), some (.int x3), some (.int v2), some (.int v5), none]) dX8_findHourToAsk_20 rfl rfl rfl ?_
  exact JO_sub (l_sub_some (l_sub_some (l_sub_none (l_sub_none (l_sub_some (l_sub_some (l_sub_none (l_sub_nil)))))))) (w_X8_findHourToAsk_22 G d t ht fu v2 v5 σ4)
