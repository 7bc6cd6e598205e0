set_option maxHeartbeats 4000000 in
set_option maxRecDepth 100000 in
theorem w_X10_forget (G : JG) (d : Nat) (o : Nat) (ho : isTown o) (σ : Mem) : JS G mX10_forget (d + 1) [.ref (G.1 + off o)] σ rV (X10_forget o σ) := by
  refine JS_of 0 (by decide +kernel) (Nat.le_of_ble_eq_true rfl) (L := [some (.ref (G.1 + off o))]) rfl ?_
  unfold X10_forget
  refine JO_aload_n (pc := 0) dX10_forget_0 rfl ?_
  refine JO_getR (pc := 1) fl_X10_33 rfl (fkTown_debt ho) dX10_forget_1 ?_
  refine JO_iconst (pc := 4) (a := 0) dX10_forget_4 (by decide) ?_
  refine JO_callSv (pc := 5) [.ref (G.1 + off (o + 8)), .int 0] lk_X10_53 rfl (w_J7_fill_53178 G d (o + 8) 36 (akTown_debt ho) 0 σ) rfl rfl (Nat.le_of_ble_eq_true rfl) dX10_forget_5 (fun σ1 => ?_)
  refine JO_aload_n (pc := 8) dX10_forget_8 rfl ?_
  refine JO_getR (pc := 9) fl_X10_39 rfl (fkTown_law ho) dX10_forget_9 ?_
  refine JO_callVv (pc := 12) [] lk_X10_59 rfl (ci := 2) rfl (shForm (inTown_law ho)) (w_X2_forget G d (o + 9) (inTown_law ho) σ1) rfl rfl (Nat.le_of_ble_eq_true rfl) dX10_forget_12 (fun σ2 => ?_)
  refine JO_aload_n (pc := 15) dX10_forget_15 rfl ?_
  refine JO_getR (pc := 16) fl_X10_43 rfl (fkTown_interest ho) dX10_forget_16 ?_
  refine JO_callVv (pc := 19) [] lk_X10_59 rfl (ci := 2) rfl (shForm (inTown_interest ho)) (w_X2_forget G d (o + 14) (inTown_interest ho) σ2) rfl rfl (Nat.le_of_ble_eq_true rfl) dX10_forget_19 (fun σ3 => ?_)
  refine JO_aload_n (pc := 22) dX10_forget_22 rfl ?_
  refine JO_getR (pc := 23) fl_X10_46 rfl (fkTown_rain ho) dX10_forget_23 ?_
  refine JO_callVv (pc := 26) [] lk_X10_59 rfl (ci := 2) rfl (shForm (inTown_rain ho)) (w_X2_forget G d (o + 19) (inTown_rain ho) σ3) rfl rfl (Nat.le_of_ble_eq_true rfl) dX10_forget_26 (fun σ4 => ?_)
  refine JO_aload_n (pc := 29) dX10_forget_29 rfl ?_
  refine JO_bipush (pc := 30) (a := 10) dX10_forget_30 (by decide) ?_
  refine JO_putI (pc := 32) fl_X10_49 rfl (fkTown_day ho) dX10_forget_32 (fun σ5 => ?_)
  refine JO_aload_n (pc := 35) dX10_forget_35 rfl ?_
  refine JO_iconst (pc := 36) (a := 0) dX10_forget_36 (by decide) ?_
  refine JO_putI (pc := 37) fl_X10_62 rfl (fkTown_people ho) dX10_forget_37 (fun σ6 => ?_)
  refine JO_aload_n (pc := 40) dX10_forget_40 rfl ?_
  refine JO_iconst (pc := 41) (a := 0) dX10_forget_41 (by decide) ?_
  refine JO_putI (pc := 42) fl_X10_65 rfl (fkTown_debts ho) dX10_forget_42 (fun σ7 => ?_)
  refine JO_aload_n (pc := 45) dX10_forget_45 rfl ?_
  refine JO_iconst (pc := 46) (a := 0) dX10_forget_46 (by decide) ?_
  refine JO_putI (pc := 47) fl_X10_68 rfl (fkTown_units ho) dX10_forget_47 (fun σ8 => ?_)
  exact JO_retv (pc := 50) rfl dX10_forget_50
set_option maxHeartbeats 4000000 in
set_option maxRecDepth 100000 in
theorem w_X9_isLetter (G : JG) (d : Nat) (x1 : Int32) (σ : Mem) : JS G mX9_isLetter d [.ref (G.1 + off 3), .int x1] σ rI (X9_isLetter x1 σ) := by
  refine JS_of 0 (by decide +kernel) (Nat.le_of_ble_eq_true rfl) (L := [some (.ref (G.1 + off 3)), some (.int x1)]) rfl ?_
  unfold X9_isLetter
  refine JO_aload_n (pc := 0) dX9_isLetter_0 rfl ?_
  refine JO_getM (pc := 1) fl_X9_9 rfl 1 (by decide) (by decide) fkX9_text dX9_isLetter_1 ?_
  refine JO_iload_n (pc := 4) dX9_isLetter_4 rfl ?_
  refine JO_bald (pc := 5) akX11_tape dX9_isLetter_5 ?_
  refine JO_bipush (pc := 6) (a := 97) dX9_isLetter_6 (by decide) ?_
  refine JO_icmp_lt (pc := 8) (tgt := 26) dX9_isLetter_8 (by decide) ?_ ?_
  · refine JO_iconst (pc := 26) (a := 0) dX9_isLetter_26 (by decide) ?_
    exact JO_retzc (pc := 27) (by decide) rfl dX9_isLetter_27
  · refine JO_aload_n (pc := 11) dX9_isLetter_11 rfl ?_
    refine JO_getM (pc := 12) fl_X9_9 rfl 1 (by decide) (by decide) fkX9_text dX9_isLetter_12 ?_
    refine JO_iload_n (pc := 15) dX9_isLetter_15 rfl ?_
    refine JO_bald (pc := 16) akX11_tape dX9_isLetter_16 ?_
    refine JO_bipush (pc := 17) (a := 122) dX9_isLetter_17 (by decide) ?_
    refine JO_icmp_gt (pc := 19) (tgt := 26) dX9_isLetter_19 (by decide) ?_ ?_
    · refine JO_iconst (pc := 26) (a := 0) dX9_isLetter_26 (by decide) ?_
      exact JO_retzc (pc := 27) (by decide) rfl dX9_isLetter_27
    · refine JO_iconst (pc := 22) (a := 1) dX9_isLetter_22 (by decide) ?_
      refine JO_goto (pc := 23) (tgt := 27) dX9_isLetter_23 (by decide) ?_
      exact JO_retzc (pc := 27) (by decide) rfl dX9_isLetter_27
set_option maxHeartbeats 4000000 in
set_option maxRecDepth 100000 in
theorem w_X9_readLetters_5 (G : JG) (d : Nat) : ∀ (n : Nat) (x1 : Int32) (σ : Mem), JO G mX9_readLetters (d + 1) 5 [some (.ref (G.1 + off 3)), some (.int x1)] [] σ rV (X9_readLetters_5 n x1 σ) := by
  intro n
  induction n with
  | zero =>
    intro x1 σ
    exact JO_none
  | succ n ih =>
    intro x1 σ
    rw [X9_readLetters_5]
    refine JO_iload_n (pc := 5) dX9_readLetters_5 rfl ?_
    refine JO_aload_n (pc := 6) dX9_readLetters_6 rfl ?_
    refine JO_getI (pc := 7) fl_X9_21 rfl fkX9_textLength dX9_readLetters_7 ?_
    refine JO_icmp_ge (pc := 10) (tgt := 34) dX9_readLetters_10 (by decide) ?_ ?_
    · exact JO_retv (pc := 34) rfl dX9_readLetters_34
    · refine JO_aload_n (pc := 13) dX9_readLetters_13 rfl ?_
      refine JO_iload_n (pc := 14) dX9_readLetters_14 rfl ?_
      refine JO_callVi (pc := 15) [.int x1] lk_X9_37 rfl (ci := 9) rfl shX9 (w_X9_isLetter G d x1 σ) rfl rfl (Nat.le_of_ble_eq_true rfl) dX9_readLetters_15 (fun r2 => ?_)
      refine JO_if_eq (pc := 18) (tgt := 34) dX9_readLetters_18 (by decide) ?_ ?_
      · exact JO_retv (pc := 34) rfl dX9_readLetters_34
      · refine JO_aload_n (pc := 21) dX9_readLetters_21 rfl ?_
        refine JO_iload_n (pc := 22) dX9_readLetters_22 rfl ?_
        refine JO_iconst (pc := 23) (a := 1) dX9_readLetters_23 (by decide) ?_
        refine JO_iadd (pc := 24) dX9_readLetters_24 ?_
        refine JO_putI (pc := 25) fl_X9_25 rfl fkX9_end dX9_readLetters_25 (fun σ3 => ?_)
        refine JO_inc (pc := 28) (b := 1) (L' := fun v4 => [some (.ref (G.1 + off 3)), some (.int v4)]) dX9_readLetters_28 rfl rfl (by decide) rfl (fun _ => rfl) (fun v4 => ?_)
        refine JO_goto (pc := 31) (tgt := 5) dX9_readLetters_31 (by decide) ?_
        exact JO_sub (l_sub_some (l_sub_some (l_sub_nil))) (ih v4 σ3)
set_option maxHeartbeats 4000000 in
set_option maxRecDepth 100000 in
theorem w_X9_readLetters (G : JG) (d : Nat) (σ : Mem) : JS G mX9_readLetters (d + 1) [.ref (G.1 + off 3)] σ rV (X9_readLetters σ) := by
  refine JS_of 1 (by decide +kernel) (Nat.le_of_ble_eq_true rfl) (L := [some (.ref (G.1 + off 3)), none]) rfl ?_
  unfold X9_readLetters
  refine JO_aload_n (pc := 0) dX9_readLetters_0 rfl ?_
  refine JO_getI (pc := 1) fl_X9_31 rfl fkX9_start dX9_readLetters_1 ?_
  refine JO_nm (fun v1 => ?_)
  refine JO_istore_n (pc := 4) (L' := [some (.ref (G.1 + off 3)), some (.int v1)]) dX9_readLetters_4 rfl rfl rfl ?_
  exact JO_sub (l_sub_some (l_sub_some (l_sub_nil))) (w_X9_readLetters_5 G d fu v1 σ)
set_option maxHeartbeats 4000000 in
set_option maxRecDepth 100000 in
theorem w_J0_coder_7d493 (G : JG) (d : Nat) (i : Nat) (hi : i < 2) (σ : Mem) : JS G mJ0_coder_7d493 d [.ref (G.2.2.2.1 i)] σ rI (J0_coder_7d493 i σ) := by
  refine JS_of 0 (by decide +kernel) (Nat.le_of_ble_eq_true rfl) (L := [some (.ref (G.2.2.2.1 i))]) rfl ?_
  unfold J0_coder_7d493
  refine JO_gets1 (pc := 0) fs_J0_38 rfl dJ0_coder_7d493_0 ?_
  refine JO_if_eq (pc := 3) (tgt := 13) dJ0_coder_7d493_3 (by decide) ?_ ?_
  · refine JO_iconst (pc := 13) (a := 1) dJ0_coder_7d493_13 (by decide) ?_
    exact JO_retb (pc := 14) rfl dJ0_coder_7d493_14
  · refine JO_aload_n (pc := 6) dJ0_coder_7d493_6 rfl ?_
    refine JO_strcod (pc := 7) hi fs_J0_15 rfl dJ0_coder_7d493_7 ?_
    refine JO_goto (pc := 10) (tgt := 14) dJ0_coder_7d493_10 (by decide) ?_
    exact JO_retb (pc := 14) rfl dJ0_coder_7d493_14
set_option maxHeartbeats 4000000 in
set_option maxRecDepth 100000 in
theorem w_J0_length_8abf5 (G : JG) (d : Nat) (i : Nat) (hi : i < 2) (σ : Mem) : JS G mJ0_length_8abf5 (d + 1) [.ref (G.2.2.2.1 i)] σ rI (J0_length_8abf5 i σ) := by
  refine JS_of 0 (by decide +kernel) (Nat.le_of_ble_eq_true rfl) (L := [some (.ref (G.2.2.2.1 i))]) rfl ?_
  unfold J0_length_8abf5
  refine JO_aload_n (pc := 0) dJ0_length_8abf5_0 rfl ?_
  refine JO_strval (pc := 1) hi fs_J0_9 rfl dJ0_length_8abf5_1 ?_
  refine JO_blen (pc := 4) hi dJ0_length_8abf5_4 ?_
  refine JO_aload_n (pc := 5) dJ0_length_8abf5_5 rfl ?_
  refine JO_callTi (pc := 6) [] lk_J0_335 rfl hi (w_J0_coder_7d493 G d i hi σ) rfl rfl rfl (Nat.le_of_ble_eq_true rfl) dJ0_length_8abf5_6 (fun r1 => ?_)
  refine JO_ishr (pc := 9) dJ0_length_8abf5_9 ?_
  exact JO_reti (pc := 10) rfl dJ0_length_8abf5_10
set_option maxHeartbeats 4000000 in
set_option maxRecDepth 100000 in
theorem w_J0_isLatin1_aae02 (G : JG) (d : Nat) (i : Nat) (hi : i < 2) (σ : Mem) : JS G mJ0_isLatin1_aae02 d [.ref (G.2.2.2.1 i)] σ rI (J0_isLatin1_aae02 i σ) := by
  refine JS_of 0 (by decide +kernel) (Nat.le_of_ble_eq_true rfl) (L := [some (.ref (G.2.2.2.1 i))]) rfl ?_
  unfold J0_isLatin1_aae02
  refine JO_gets1 (pc := 0) fs_J0_38 rfl dJ0_isLatin1_aae02_0 ?_
  refine JO_if_eq (pc := 3) (tgt := 17) dJ0_isLatin1_aae02_3 (by decide) ?_ ?_
  · refine JO_iconst (pc := 17) (a := 0) dJ0_isLatin1_aae02_17 (by decide) ?_
    exact JO_retzc (pc := 18) (by decide) rfl dJ0_isLatin1_aae02_18
  · refine JO_aload_n (pc := 6) dJ0_isLatin1_aae02_6 rfl ?_
    refine JO_strcod (pc := 7) hi fs_J0_15 rfl dJ0_isLatin1_aae02_7 ?_
    refine JO_if_ne (pc := 10) (tgt := 17) dJ0_isLatin1_aae02_10 (by decide) ?_ ?_
    · refine JO_iconst (pc := 17) (a := 0) dJ0_isLatin1_aae02_17 (by decide) ?_
      exact JO_retzc (pc := 18) (by decide) rfl dJ0_isLatin1_aae02_18
    · refine JO_iconst (pc := 13) (a := 1) dJ0_isLatin1_aae02_13 (by decide) ?_
      refine JO_goto (pc := 14) (tgt := 18) dJ0_isLatin1_aae02_14 (by decide) ?_
      exact JO_retzc (pc := 18) (by decide) rfl dJ0_isLatin1_aae02_18
set_option maxHeartbeats 4000000 in
set_option maxRecDepth 100000 in
theorem w_J1_charAt_3b067 (G : JG) (d : Nat) (i : Nat) (hi : i < 2) (x1 : Int32) (σ : Mem) : JS G mJ1_charAt_3b067 (d + 2) [.ref (G.2.2.2.2.1 i), .int x1] σ rI (J1_charAt_3b067 i x1 σ) := by
  refine JS_of 0 (by decide +kernel) (Nat.le_of_ble_eq_true rfl) (L := [some (.ref (G.2.2.2.2.1 i)), some (.int x1)]) rfl ?_
  unfold J1_charAt_3b067
  refine JO_iload_n (pc := 0) dJ1_charAt_3b067_0 rfl ?_
  refine JO_aload_n (pc := 1) dJ1_charAt_3b067_1 rfl ?_
  refine JO_blen (pc := 2) hi dJ1_charAt_3b067_2 ?_
  refine JO_callSv (pc := 3) [.int x1, .int (Int32.ofNat (j_len.getD i 0))] lk_J1_9 rfl (w_J0_checkIndex_df160 G d x1 (Int32.ofNat (j_len.getD i 0)) σ) rfl rfl (Nat.le_of_ble_eq_true rfl) dJ1_charAt_3b067_3 (fun σ1 => ?_)
  refine JO_aload_n (pc := 6) dJ1_charAt_3b067_6 rfl ?_
  refine JO_iload_n (pc := 7) dJ1_charAt_3b067_7 rfl ?_
  refine JO_bbald (pc := 8) hi dJ1_charAt_3b067_8 ?_
  refine JO_sipush (pc := 9) (a := 255) dJ1_charAt_3b067_9 (by decide) ?_
  refine JO_iand (pc := 12) dJ1_charAt_3b067_12 ?_
  refine JO_i2c (pc := 13) dJ1_charAt_3b067_13 ?_
  exact JO_retc (pc := 14) rfl dJ1_charAt_3b067_14
set_option maxHeartbeats 4000000 in
set_option maxRecDepth 100000 in
theorem w_J0_charAt_5068e (G : JG) (d : Nat) (i : Nat) (hi : i < 2) (x1 : Int32) (σ : Mem) : JS G mJ0_charAt_5068e (d + 3) [.ref (G.2.2.2.1 i), .int x1] σ rI (J0_charAt_5068e i x1 σ) := by
  refine JS_of 0 (by decide +kernel) (Nat.le_of_ble_eq_true rfl) (L := [some (.ref (G.2.2.2.1 i)), some (.int x1)]) rfl ?_
  unfold J0_charAt_5068e
  refine JO_aload_n (pc := 0) dJ0_charAt_5068e_0 rfl ?_
  refine JO_callTi (pc := 1) [] lk_J0_492 rfl hi (w_J0_isLatin1_aae02 G (d + 2) i hi σ) rfl rfl rfl (Nat.le_of_ble_eq_true rfl) dJ0_charAt_5068e_1 (fun r1 => ?_)
  refine JO_if_eq (pc := 4) (tgt := 16) dJ0_charAt_5068e_4 (by decide) ?_ ?_
  · refine JO_aload_n (pc := 16) dJ0_charAt_5068e_16 rfl ?_
    refine JO_strval (pc := 17) hi fs_J0_9 rfl dJ0_charAt_5068e_17 ?_
    refine JO_iload_n (pc := 20) dJ0_charAt_5068e_20 rfl ?_
    exact JO_none
  · refine JO_aload_n (pc := 7) dJ0_charAt_5068e_7 rfl ?_
    refine JO_strval (pc := 8) hi fs_J0_9 rfl dJ0_charAt_5068e_8 ?_
    refine JO_iload_n (pc := 11) dJ0_charAt_5068e_11 rfl ?_
    refine JO_callSi (pc := 12) [.ref (G.2.2.2.2.1 i), .int x1] lk_J0_495 rfl (w_J1_charAt_3b067 G d i hi x1 r1.2) rfl rfl (Nat.le_of_ble_eq_true rfl) dJ0_charAt_5068e_12 (fun r2 => ?_)
    exact JO_retc (pc := 15) rfl dJ0_charAt_5068e_15
set_option maxHeartbeats 4000000 in
set_option maxRecDepth 100000 in
theorem w_X9_kindOfWord_93 (G : JG) (d : Nat) (k95 : Int32 → Int32 → Int32 → Mem → Option (Int32 × Mem)) (hk95 : ∀ (x1 : Int32) (x2 : Int32) (x3 : Int32) (σ : Mem), JO G mX9_kindOfWord (d + 4) 95 [some (.ref (G.1 + off 3)), some (.int x1), some (.int x2), some (.int x3), none] [] σ rI (k95 x1 x2 x3 σ)) : ∀ (x1 : Int32) (x3 : Int32) (σ : Mem), JO G mX9_kindOfWord (d + 4) 93 [some (.ref (G.1 + off 3)), some (.int x1), none, some (.int x3), none] [] σ rI (X9_kindOfWord_93 k95 x1 x3 σ) := by
  intro x1 x3 σ
  unfold X9_kindOfWord_93
  refine JO_iconst (pc := 93) (a := (-1)) dX9_kindOfWord_93 (by decide) ?_
  refine JO_nm (fun v10 => ?_)
  refine JO_istore_n (pc := 94) (L' := [some (.ref (G.1 + off 3)), some (.int x1), some (.int v10), some (.int x3), none]) dX9_kindOfWord_94 rfl rfl rfl ?_
  exact JO_sub (l_sub_some (l_sub_some (l_sub_some (l_sub_some (l_sub_none (l_sub_nil)))))) (hk95 x1 v10 x3 σ)
set_option maxHeartbeats 4000000 in
set_option maxRecDepth 100000 in
theorem w_X9_kindOfWord_95 (G : JG) (d : Nat) (k7 : Int32 → Int32 → Int32 → Mem → Option (Int32 × Mem)) (hk7 : ∀ (x1 : Int32) (x2 : Int32) (x3 : Int32) (σ : Mem), JO G mX9_kindOfWord (d + 4) 7 [some (.ref (G.1 + off 3)), some (.int x1), some (.int x2), some (.int x3), none] [] σ rI (k7 x1 x2 x3 σ)) : ∀ (x1 : Int32) (x2 : Int32) (x3 : Int32) (σ : Mem), JO G mX9_kindOfWord (d + 4) 95 [some (.ref (G.1 + off 3)), some (.int x1), some (.int x2), some (.int x3), none] [] σ rI (X9_kindOfWord_95 k7 x1 x2 x3 σ) := by
  intro x1 x2 x3 σ
  unfold X9_kindOfWord_95
  refine JO_inc (pc := 95) (b := 1) (L' := fun v11 => [some (.ref (G.1 + off 3)), some (.int x1), some (.int x2), some (.int v11), none]) dX9_kindOfWord_95 rfl rfl (by decide) rfl (fun _ => rfl) (fun v11 => ?_)
  refine JO_goto (pc := 98) (tgt := 7) dX9_kindOfWord_98 (by decide) ?_
  exact JO_sub (l_sub_some (l_sub_some (l_sub_some (l_sub_some (l_sub_none (l_sub_nil)))))) (hk7 x1 x2 v11 σ)
set_option maxHeartbeats 4000000 in
set_option maxRecDepth 100000 in
theorem w_X9_kindOfWord_7 (G : JG) (d : Nat) : ∀ (n : Nat) (x1 : Int32) (x2 : Int32) (x3 : Int32) (σ : Mem), JO G mX9_kindOfWord (d + 4) 7 [some (.ref (G.1 + off 3)), some (.int x1), some (.int x2), some (.int x3), none] [] σ rI (X9_kindOfWord_7 n x1 x2 x3 σ) := by
  intro n
  induction n with
  | zero =>
    intro x1 x2 x3 σ
    exact JO_none
  | succ n ih =>
    intro x1 x2 x3 σ
    rw [X9_kindOfWord_7]
    refine JO_iload_n (pc := 7) dX9_kindOfWord_7 rfl ?_
    refine JO_ldcs (pc := 8) (i := 1) (by decide) rfl rfl dX9_kindOfWord_8 ?_
    refine JO_callTi (pc := 10) [] lk_X9_67 rfl (by decide) (w_J0_length_8abf5 G (d + 2) 1 (by decide) σ) rfl rfl rfl (Nat.le_of_ble_eq_true rfl) dX9_kindOfWord_10 (fun r4 => ?_)
    refine JO_icmp_ge (pc := 13) (tgt := 101) dX9_kindOfWord_13 (by decide) ?_ ?_
    · refine JO_iconst (pc := 101) (a := 3) dX9_kindOfWord_101 (by decide) ?_
      exact JO_reti (pc := 102) rfl dX9_kindOfWord_102
    · refine JO_ldcs (pc := 16) (i := 1) (by decide) rfl rfl dX9_kindOfWord_16 ?_
      refine JO_iload_n (pc := 18) dX9_kindOfWord_18 rfl ?_
      refine JO_callTi (pc := 19) [.int x3] lk_X9_70 rfl (by decide) (w_J0_charAt_5068e G d 1 (by decide) x3 r4.2) rfl rfl rfl (Nat.le_of_ble_eq_true rfl) dX9_kindOfWord_19 (fun r5 => ?_)
      refine JO_nm (fun v6 => ?_)
      refine JO_istore (pc := 22) (L' := [some (.ref (G.1 + off 3)), some (.int x1), some (.int x2), some (.int x3), some (.int v6)]) dX9_kindOfWord_22 rfl rfl rfl ?_
      refine JO_iload (pc := 24) dX9_kindOfWord_24 rfl ?_
      refine JO_bipush (pc := 26) (a := 32) dX9_kindOfWord_26 (by decide) ?_
      refine JO_icmp_ne (pc := 28) (tgt := 54) dX9_kindOfWord_28 (by decide) ?_ ?_
      · refine JO_iload_n (pc := 54) dX9_kindOfWord_54 rfl ?_
        refine JO_if_lt (pc := 55) (tgt := 93) dX9_kindOfWord_55 (by decide) ?_ ?_
        · exact JO_sub (l_sub_some (l_sub_some (l_sub_none (l_sub_some (l_sub_none (l_sub_nil)))))) (w_X9_kindOfWord_93 G d _ (w_X9_kindOfWord_95 G d _ (ih)) x1 x3 r5.2)
        · refine JO_iload_n (pc := 58) dX9_kindOfWord_58 rfl ?_
          refine JO_aload_n (pc := 59) dX9_kindOfWord_59 rfl ?_
          refine JO_getI (pc := 60) fl_X9_25 rfl fkX9_end dX9_kindOfWord_60 ?_
          refine JO_aload_n (pc := 63) dX9_kindOfWord_63 rfl ?_
          refine JO_getI (pc := 64) fl_X9_31 rfl fkX9_start dX9_kindOfWord_64 ?_
          refine JO_isub (pc := 67) dX9_kindOfWord_67 ?_
          refine JO_icmp_ge (pc := 68) (tgt := 93) dX9_kindOfWord_68 (by decide) ?_ ?_
          · exact JO_sub (l_sub_some (l_sub_some (l_sub_none (l_sub_some (l_sub_none (l_sub_nil)))))) (w_X9_kindOfWord_93 G d _ (w_X9_kindOfWord_95 G d _ (ih)) x1 x3 r5.2)
          · refine JO_aload_n (pc := 71) dX9_kindOfWord_71 rfl ?_
            refine JO_getM (pc := 72) fl_X9_9 rfl 1 (by decide) (by decide) fkX9_text dX9_kindOfWord_72 ?_
            refine JO_aload_n (pc := 75) dX9_kindOfWord_75 rfl ?_
            refine JO_getI (pc := 76) fl_X9_31 rfl fkX9_start dX9_kindOfWord_76 ?_
            refine JO_iload_n (pc := 79) dX9_kindOfWord_79 rfl ?_
            refine JO_iadd (pc := 80) dX9_kindOfWord_80 ?_
            refine JO_bald (pc := 81) akX11_tape dX9_kindOfWord_81 ?_
            refine JO_iload (pc := 82) dX9_kindOfWord_82 rfl ?_
            refine JO_icmp_ne (pc := 84) (tgt := 93) dX9_kindOfWord_84 (by decide) ?_ ?_
            · exact JO_sub (l_sub_some (l_sub_some (l_sub_none (l_sub_some (l_sub_none (l_sub_nil)))))) (w_X9_kindOfWord_93 G d _ (w_X9_kindOfWord_95 G d _ (ih)) x1 x3 r5.2)
            · refine JO_inc (pc := 87) (b := 1) (L' := fun v7 => [some (.ref (G.1 + off 3)), some (.int x1), some (.int v7), some (.int x3), some (.int v6)]) dX9_kindOfWord_87 rfl rfl (by decide) rfl (fun _ => rfl) (fun v7 => ?_)
              refine JO_goto (pc := 90) (tgt := 95) dX9_kindOfWord_90 (by decide) ?_
              exact JO_sub (l_sub_some (l_sub_some (l_sub_some (l_sub_some (l_sub_none (l_sub_nil)))))) (w_X9_kindOfWord_95 G d _ (ih) x1 v7 x3 r5.2)
      · refine JO_iload_n (pc := 31) dX9_kindOfWord_31 rfl ?_
        refine JO_aload_n (pc := 32) dX9_kindOfWord_32 rfl ?_
        refine JO_getI (pc := 33) fl_X9_25 rfl fkX9_end dX9_kindOfWord_33 ?_
        refine JO_aload_n (pc := 36) dX9_kindOfWord_36 rfl ?_
        refine JO_getI (pc := 37) fl_X9_31 rfl fkX9_start dX9_kindOfWord_37 ?_
        refine JO_isub (pc := 40) dX9_kindOfWord_40 ?_
        refine JO_icmp_ne (pc := 41) (tgt := 46) dX9_kindOfWord_41 (by decide) ?_ ?_
        · refine JO_inc (pc := 46) (b := 1) (L' := fun v8 => [some (.ref (G.1 + off 3)), some (.int v8), some (.int x2), some (.int x3), some (.int v6)]) dX9_kindOfWord_46 rfl rfl (by decide) rfl (fun _ => rfl) (fun v8 => ?_)
          refine JO_iconst (pc := 49) (a := 0) dX9_kindOfWord_49 (by decide) ?_
          refine JO_nm (fun v9 => ?_)
          refine JO_istore_n (pc := 50) (L' := [some (.ref (G.1 + off 3)), some (.int v8), some (.int v9), some (.int x3), some (.int v6)]) dX9_kindOfWord_50 rfl rfl rfl ?_
          refine JO_goto (pc := 51) (tgt := 95) dX9_kindOfWord_51 (by decide) ?_
          exact JO_sub (l_sub_some (l_sub_some (l_sub_some (l_sub_some (l_sub_none (l_sub_nil)))))) (w_X9_kindOfWord_95 G d _ (ih) v8 v9 x3 r5.2)
        · refine JO_iload_n (pc := 44) dX9_kindOfWord_44 rfl ?_
          exact JO_reti (pc := 45) rfl dX9_kindOfWord_45
set_option maxHeartbeats 4000000 in
set_option maxRecDepth 100000 in
theorem w_X9_kindOfWord (G : JG) (d : Nat) (σ : Mem) : JS G mX9_kindOfWord (d + 4) [.ref (G.1 + off 3)] σ rI (X9_kindOfWord σ) := by
  refine JS_of 4 (by decide +kernel) (Nat.le_of_ble_eq_true rfl) (L := [some (.ref (G.1 + off 3)), none, none, none, none]) rfl ?_
  unfold X9_kindOfWord
  refine JO_bipush (pc := 0) (a := 100) dX9_kindOfWord_0 (by decide) ?_
  refine JO_nm (fun v1 => ?_)
  refine JO_istore_n (pc := 2) (L' := [some (.ref (G.1 + off 3)), some (.int v1), none, none, none]) dX9_kindOfWord_2 rfl rfl rfl ?_
  refine JO_iconst (pc := 3) (a := 0) dX9_kindOfWord_3 (by decide) ?_
  refine JO_nm (fun v2 => ?_)
  refine JO_istore_n (pc := 4) (L' := [some (.ref (G.1 + off 3)), some (.int v1), some (.int v2), none, none]) dX9_kindOfWord_4 rfl rfl rfl ?_
  refine JO_iconst (pc := 5) (a := 0) dX9_kindOfWord_5 (by decide) ?_
  refine JO_nm (fun v3 => ?_)
  refine JO_istore_n (pc := 6) (L' := [some (.ref (G.1 + off 3)), some (.int v1), some (.int v2), some (.int v3), none]) dX9_kindOfWord_6 rfl rfl rfl ?_
  exact JO_sub (l_sub_some (l_sub_some (l_sub_some (l_sub_some (l_sub_none (l_sub_nil)))))) (w_X9_kindOfWord_7 G d fu v1 v2 v3 σ)
set_option maxHeartbeats 4000000 in
set_option maxRecDepth 100000 in
theorem w_X9_isDigit (G : JG) (d : Nat) (x1 : Int32) (σ : Mem) : JS G mX9_isDigit d [.ref (G.1 + off 3), .int x1] σ rI (X9_isDigit x1 σ) := by
  refine JS_of 0 (by decide +kernel) (Nat.le_of_ble_eq_true rfl) (L := [some (.ref (G.1 + off 3)), some (.int x1)]) rfl ?_
  unfold X9_isDigit
  refine JO_aload_n (pc := 0) dX9_isDigit_0 rfl ?_
  refine JO_getM (pc := 1) fl_X9_9 rfl 1 (by decide) (by decide) fkX9_text dX9_isDigit_1 ?_
  refine JO_iload_n (pc := 4) dX9_isDigit_4 rfl ?_
  refine JO_bald (pc := 5) akX11_tape dX9_isDigit_5 ?_
  refine JO_bipush (pc := 6) (a := 48) dX9_isDigit_6 (by decide) ?_
  refine JO_icmp_lt (pc := 8) (tgt := 26) dX9_isDigit_8 (by decide) ?_ ?_
  · refine JO_iconst (pc := 26) (a := 0) dX9_isDigit_26 (by decide) ?_
    exact JO_retzc (pc := 27) (by decide) rfl dX9_isDigit_27
  · refine JO_aload_n (pc := 11) dX9_isDigit_11 rfl ?_
    refine JO_getM (pc := 12) fl_X9_9 rfl 1 (by decide) (by decide) fkX9_text dX9_isDigit_12 ?_
    refine JO_iload_n (pc := 15) dX9_isDigit_15 rfl ?_
    refine JO_bald (pc := 16) akX11_tape dX9_isDigit_16 ?_
    refine JO_bipush (pc := 17) (a := 57) dX9_isDigit_17 (by decide) ?_
    refine JO_icmp_gt (pc := 19) (tgt := 26) dX9_isDigit_19 (by decide) ?_ ?_
    · refine JO_iconst (pc := 26) (a := 0) dX9_isDigit_26 (by decide) ?_
      exact JO_retzc (pc := 27) (by decide) rfl dX9_isDigit_27
    · refine JO_iconst (pc := 22) (a := 1) dX9_isDigit_22 (by decide) ?_
      refine JO_goto (pc := 23) (tgt := 27) dX9_isDigit_23 (by decide) ?_
      exact JO_retzc (pc := 27) (by decide) rfl dX9_isDigit_27
set_option maxHeartbeats 4000000 in
set_option maxRecDepth 100000 in
theorem w_X9_readNumber_95 (G : JG) (d : Nat) (k100 : Int32 → Mem → Option Mem) (hk100 : ∀ (s0 : Int32) (σ : Mem), JO G mX9_readNumber (d + 1) 100 [some (.ref (G.1 + off 3)), none] [.int s0] σ rV (k100 s0 σ)) : ∀ (σ : Mem), JO G mX9_readNumber (d + 1) 95 [some (.ref (G.1 + off 3)), none] [] σ rV (X9_readNumber_95 k100 σ) := by
  intro σ
  unfold X9_readNumber_95
  refine JO_iconst (pc := 95) (a := 1) dX9_readNumber_95 (by decide) ?_
  refine JO_goto (pc := 96) (tgt := 100) dX9_readNumber_96 (by decide) ?_
  exact JO_sub (l_sub_some (l_sub_none (l_sub_nil))) (hk100 1 σ)
set_option maxHeartbeats 4000000 in
set_option maxRecDepth 100000 in
theorem w_X9_readNumber_111 (G : JG) (d : Nat) : ∀ (s0 : Int32) (σ : Mem), JO G mX9_readNumber (d + 1) 111 [none, none] [.int s0, .ref (G.1 + off 3)] σ rV (X9_readNumber_111 s0 σ) := by
  intro s0 σ
  unfold X9_readNumber_111
  refine JO_putI (pc := 111) fl_X9_34 rfl fkX9_kind dX9_readNumber_111 (fun σ8 => ?_)
  exact JO_retv (pc := 114) rfl dX9_readNumber_114
set_option maxHeartbeats 4000000 in
set_option maxRecDepth 100000 in
theorem w_X9_readNumber_99 (G : JG) (d : Nat) (k100 : Int32 → Mem → Option Mem) (hk100 : ∀ (s0 : Int32) (σ : Mem), JO G mX9_readNumber (d + 1) 100 [some (.ref (G.1 + off 3)), none] [.int s0] σ rV (k100 s0 σ)) : ∀ (σ : Mem), JO G mX9_readNumber (d + 1) 99 [some (.ref (G.1 + off 3)), none] [] σ rV (X9_readNumber_99 k100 σ) := by
  intro σ
  unfold X9_readNumber_99
  refine JO_iconst (pc := 99) (a := 0) dX9_readNumber_99 (by decide) ?_
  exact JO_sub (l_sub_some (l_sub_none (l_sub_nil))) (hk100 0 σ)
set_option maxHeartbeats 4000000 in
set_option maxRecDepth 100000 in
theorem w_X9_readNumber_100 (G : JG) (d : Nat) : ∀ (s0 : Int32) (σ : Mem), JO G mX9_readNumber (d + 1) 100 [some (.ref (G.1 + off 3)), none] [.int s0] σ rV (X9_readNumber_100 s0 σ) := by
  intro s0 σ
  unfold X9_readNumber_100
  refine JO_istore_n (pc := 100) (L' := [some (.ref (G.1 + off 3)), some (.int s0)]) dX9_readNumber_100 rfl rfl rfl ?_
  refine JO_aload_n (pc := 101) dX9_readNumber_101 rfl ?_
  refine JO_iload_n (pc := 102) dX9_readNumber_102 rfl ?_
  refine JO_if_eq (pc := 103) (tgt := 110) dX9_readNumber_103 (by decide) ?_ ?_
  · refine JO_iconst (pc := 110) (a := 1) dX9_readNumber_110 (by decide) ?_
    exact JO_sub (l_sub_none (l_sub_none (l_sub_nil))) (w_X9_readNumber_111 G d 1 σ)
  · refine JO_iconst (pc := 106) (a := 2) dX9_readNumber_106 (by decide) ?_
    refine JO_goto (pc := 107) (tgt := 111) dX9_readNumber_107 (by decide) ?_
    exact JO_sub (l_sub_none (l_sub_none (l_sub_nil))) (w_X9_readNumber_111 G d 2 σ)
set_option maxHeartbeats 4000000 in
set_option maxRecDepth 100000 in
theorem w_X9_readNumber_60 (G : JG) (d : Nat) : ∀ (σ : Mem), JO G mX9_readNumber (d + 1) 60 [some (.ref (G.1 + off 3)), none] [] σ rV (X9_readNumber_60 σ) := by
  intro σ
  unfold X9_readNumber_60
  refine JO_aload_n (pc := 60) dX9_readNumber_60 rfl ?_
  refine JO_getI (pc := 61) fl_X9_25 rfl fkX9_end dX9_readNumber_61 ?_
  refine JO_aload_n (pc := 64) dX9_readNumber_64 rfl ?_
  refine JO_getI (pc := 65) fl_X9_31 rfl fkX9_start dX9_readNumber_65 ?_
  refine JO_isub (pc := 68) dX9_readNumber_68 ?_
  refine JO_iconst (pc := 69) (a := 4) dX9_readNumber_69 (by decide) ?_
  refine JO_icmp_gt (pc := 70) (tgt := 99) dX9_readNumber_70 (by decide) ?_ ?_
  · exact JO_sub (l_sub_some (l_sub_none (l_sub_nil))) (w_X9_readNumber_99 G d _ (w_X9_readNumber_100 G d)  σ)
  · refine JO_aload_n (pc := 73) dX9_readNumber_73 rfl ?_
    refine JO_getI (pc := 74) fl_X9_25 rfl fkX9_end dX9_readNumber_74 ?_
    refine JO_aload_n (pc := 77) dX9_readNumber_77 rfl ?_
    refine JO_getI (pc := 78) fl_X9_21 rfl fkX9_textLength dX9_readNumber_78 ?_
    refine JO_icmp_ge (pc := 81) (tgt := 95) dX9_readNumber_81 (by decide) ?_ ?_
    · exact JO_sub (l_sub_some (l_sub_none (l_sub_nil))) (w_X9_readNumber_95 G d _ (w_X9_readNumber_100 G d)  σ)
    · refine JO_aload_n (pc := 84) dX9_readNumber_84 rfl ?_
      refine JO_aload_n (pc := 85) dX9_readNumber_85 rfl ?_
      refine JO_getI (pc := 86) fl_X9_25 rfl fkX9_end dX9_readNumber_86 ?_
      refine JO_callVi (pc := 89) [.int (σ.1 3 4)] lk_X9_37 rfl (ci := 9) rfl shX9 (w_X9_isLetter G d (σ.1 3 4) σ) rfl rfl (Nat.le_of_ble_eq_true rfl) dX9_readNumber_89 (fun r7 => ?_)
      refine JO_if_ne (pc := 92) (tgt := 99) dX9_readNumber_92 (by decide) ?_ ?_
      · exact JO_sub (l_sub_some (l_sub_none (l_sub_nil))) (w_X9_readNumber_99 G d _ (w_X9_readNumber_100 G d)  r7.2)
      · exact JO_sub (l_sub_some (l_sub_none (l_sub_nil))) (w_X9_readNumber_95 G d _ (w_X9_readNumber_100 G d)  r7.2)
set_option maxHeartbeats 4000000 in
set_option maxRecDepth 100000 in
theorem w_X9_readNumber_10 (G : JG) (d : Nat) : ∀ (n : Nat) (x1 : Int32) (σ : Mem), JO G mX9_readNumber (d + 1) 10 [some (.ref (G.1 + off 3)), some (.int x1)] [] σ rV (X9_readNumber_10 n x1 σ) := by
  intro n
  induction n with
  | zero =>
    intro x1 σ
    exact JO_none
  | succ n ih =>
    intro x1 σ
    rw [X9_readNumber_10]
    refine JO_iload_n (pc := 10) dX9_readNumber_10 rfl ?_
    refine JO_aload_n (pc := 11) dX9_readNumber_11 rfl ?_
    refine JO_getI (pc := 12) fl_X9_21 rfl fkX9_textLength dX9_readNumber_12 ?_
    refine JO_icmp_ge (pc := 15) (tgt := 60) dX9_readNumber_15 (by decide) ?_ ?_
    · exact JO_sub (l_sub_some (l_sub_none (l_sub_nil))) (w_X9_readNumber_60 G d  σ)
    · refine JO_aload_n (pc := 18) dX9_readNumber_18 rfl ?_
      refine JO_iload_n (pc := 19) dX9_readNumber_19 rfl ?_
      refine JO_callVi (pc := 20) [.int x1] lk_X9_48 rfl (ci := 9) rfl shX9 (w_X9_isDigit G d x1 σ) rfl rfl (Nat.le_of_ble_eq_true rfl) dX9_readNumber_20 (fun r3 => ?_)
      refine JO_if_eq (pc := 23) (tgt := 60) dX9_readNumber_23 (by decide) ?_ ?_
      · exact JO_sub (l_sub_some (l_sub_none (l_sub_nil))) (w_X9_readNumber_60 G d  r3.2)
      · refine JO_aload_n (pc := 26) dX9_readNumber_26 rfl ?_
        refine JO_aload_n (pc := 27) dX9_readNumber_27 rfl ?_
        refine JO_getI (pc := 28) fl_X9_62 rfl fkX9_number dX9_readNumber_28 ?_
        refine JO_bipush (pc := 31) (a := 10) dX9_readNumber_31 (by decide) ?_
        refine JO_imul (pc := 33) dX9_readNumber_33 ?_
        refine JO_aload_n (pc := 34) dX9_readNumber_34 rfl ?_
        refine JO_getM (pc := 35) fl_X9_9 rfl 1 (by decide) (by decide) fkX9_text dX9_readNumber_35 ?_
        refine JO_iload_n (pc := 38) dX9_readNumber_38 rfl ?_
        refine JO_bald (pc := 39) akX11_tape dX9_readNumber_39 ?_
        refine JO_iadd (pc := 40) dX9_readNumber_40 ?_
        refine JO_bipush (pc := 41) (a := 48) dX9_readNumber_41 (by decide) ?_
        refine JO_isub (pc := 43) dX9_readNumber_43 ?_
        refine JO_putI (pc := 44) fl_X9_62 rfl fkX9_number dX9_readNumber_44 (fun σ4 => ?_)
        refine JO_aload_n (pc := 47) dX9_readNumber_47 rfl ?_
        refine JO_iload_n (pc := 48) dX9_readNumber_48 rfl ?_
        refine JO_iconst (pc := 49) (a := 1) dX9_readNumber_49 (by decide) ?_
        refine JO_iadd (pc := 50) dX9_readNumber_50 ?_
        refine JO_putI (pc := 51) fl_X9_25 rfl fkX9_end dX9_readNumber_51 (fun σ5 => ?_)
        refine JO_inc (pc := 54) (b := 1) (L' := fun v6 => [some (.ref (G.1 + off 3)), some (.int v6)]) dX9_readNumber_54 rfl rfl (by decide) rfl (fun _ => rfl) (fun v6 => ?_)
        refine JO_goto (pc := 57) (tgt := 10) dX9_readNumber_57 (by decide) ?_
        exact JO_sub (l_sub_some (l_sub_some (l_sub_nil))) (ih v6 σ5)
set_option maxHeartbeats 4000000 in
set_option maxRecDepth 100000 in
theorem w_X9_readNumber (G : JG) (d : Nat) (σ : Mem) : JS G mX9_readNumber (d + 1) [.ref (G.1 + off 3)] σ rV (X9_readNumber σ) := by
  refine JS_of 1 (by decide +kernel) (Nat.le_of_ble_eq_true rfl) (L := [some (.ref (G.1 + off 3)), none]) rfl ?_
  unfold X9_readNumber
  refine JO_aload_n (pc := 0) dX9_readNumber_0 rfl ?_
  refine JO_iconst (pc := 1) (a := 0) dX9_readNumber_1 (by decide) ?_
  refine JO_putI (pc := 2) fl_X9_62 rfl fkX9_number dX9_readNumber_2 (fun σ1 => ?_)
  refine JO_aload_n (pc := 5) dX9_readNumber_5 rfl ?_
  refine JO_getI (pc := 6) fl_X9_31 rfl fkX9_start dX9_readNumber_6 ?_
  refine JO_nm (fun v2 => ?_)
  refine JO_istore_n (pc := 9) (L' := [some (.ref (G.1 + off 3)), some (.int v2)]) dX9_readNumber_9 rfl rfl rfl ?_
  exact JO_sub (l_sub_some (l_sub_some (l_sub_nil))) (w_X9_readNumber_10 G d fu v2 σ1)
set_option maxHeartbeats 4000000 in
set_option maxRecDepth 100000 in
theorem w_J1_canEncode_9a6ad (G : JG) (d : Nat) (x0 : Int32) (σ : Mem) : JS G mJ1_canEncode_9a6ad d [.int x0] σ rI (J1_canEncode_9a6ad x0 σ) := by
  refine JS_of 0 (by decide +kernel) (Nat.le_of_ble_eq_true rfl) (L := [some (.int x0)]) rfl ?_
  unfold J1_canEncode_9a6ad
  refine JO_iload_n (pc := 0) dJ1_canEncode_9a6ad_0 rfl ?_
  refine JO_if_lt (pc := 1) (tgt := 15) dJ1_canEncode_9a6ad_1 (by decide) ?_ ?_
  · refine JO_iconst (pc := 15) (a := 0) dJ1_canEncode_9a6ad_15 (by decide) ?_
    exact JO_retzc (pc := 16) (by decide) rfl dJ1_canEncode_9a6ad_16
  · refine JO_iload_n (pc := 4) dJ1_canEncode_9a6ad_4 rfl ?_
    refine JO_sipush (pc := 5) (a := 255) dJ1_canEncode_9a6ad_5 (by decide) ?_
    refine JO_icmp_gt (pc := 8) (tgt := 15) dJ1_canEncode_9a6ad_8 (by decide) ?_ ?_
    · refine JO_iconst (pc := 15) (a := 0) dJ1_canEncode_9a6ad_15 (by decide) ?_
      exact JO_retzc (pc := 16) (by decide) rfl dJ1_canEncode_9a6ad_16
    · refine JO_iconst (pc := 11) (a := 1) dJ1_canEncode_9a6ad_11 (by decide) ?_
      refine JO_goto (pc := 12) (tgt := 16) dJ1_canEncode_9a6ad_12 (by decide) ?_
      exact JO_retzc (pc := 16) (by decide) rfl dJ1_canEncode_9a6ad_16
set_option maxHeartbeats 4000000 in
set_option maxRecDepth 100000 in
theorem w_J1_indexOfChar_4cfef_7 (G : JG) (d : Nat) (i : Nat) (hi : i < 2) : ∀ (n : Nat) (x3 : Int32) (x4 : Int32) (x5 : Int32) (σ : Mem), JO G mJ1_indexOfChar_4cfef d 7 [some (.ref (G.2.2.2.2.1 i)), none, none, some (.int x3), some (.int x4), some (.int x5)] [] σ rI (J1_indexOfChar_4cfef_7 i n x3 x4 x5 σ) := by
  intro n
  induction n with
  | zero =>
    intro x3 x4 x5 σ
    exact JO_none
  | succ n ih =>
    intro x3 x4 x5 σ
    rw [J1_indexOfChar_4cfef_7]
    refine JO_iload (pc := 7) dJ1_indexOfChar_4cfef_7 rfl ?_
    refine JO_iload_n (pc := 9) dJ1_indexOfChar_4cfef_9 rfl ?_
    refine JO_icmp_ge (pc := 10) (tgt := 31) dJ1_indexOfChar_4cfef_10 (by decide) ?_ ?_
    · refine JO_iconst (pc := 31) (a := (-1)) dJ1_indexOfChar_4cfef_31 (by decide) ?_
      exact JO_reti (pc := 32) rfl dJ1_indexOfChar_4cfef_32
    · refine JO_aload_n (pc := 13) dJ1_indexOfChar_4cfef_13 rfl ?_
      refine JO_iload (pc := 14) dJ1_indexOfChar_4cfef_14 rfl ?_
      refine JO_bbald (pc := 16) hi dJ1_indexOfChar_4cfef_16 ?_
      refine JO_iload (pc := 17) dJ1_indexOfChar_4cfef_17 rfl ?_
      refine JO_icmp_ne (pc := 19) (tgt := 25) dJ1_indexOfChar_4cfef_19 (by decide) ?_ ?_
      · refine JO_inc (pc := 25) (b := 1) (L' := fun v2 => [some (.ref (G.2.2.2.2.1 i)), none, none, some (.int x3), some (.int x4), some (.int v2)]) dJ1_indexOfChar_4cfef_25 rfl rfl (by decide) rfl (fun _ => rfl) (fun v2 => ?_)
        refine JO_goto (pc := 28) (tgt := 7) dJ1_indexOfChar_4cfef_28 (by decide) ?_
        exact JO_sub (l_sub_some (l_sub_none (l_sub_none (l_sub_some (l_sub_some (l_sub_some (l_sub_nil))))))) (ih x3 x4 v2 σ)
      · refine JO_iload (pc := 22) dJ1_indexOfChar_4cfef_22 rfl ?_
        exact JO_reti (pc := 24) rfl dJ1_indexOfChar_4cfef_24
set_option maxHeartbeats 4000000 in
set_option maxRecDepth 100000 in
theorem w_J1_indexOfChar_4cfef (G : JG) (d : Nat) (i : Nat) (hi : i < 2) (x1 : Int32) (x2 : Int32) (x3 : Int32) (σ : Mem) : JS G mJ1_indexOfChar_4cfef d [.ref (G.2.2.2.2.1 i), .int x1, .int x2, .int x3] σ rI (J1_indexOfChar_4cfef i x1 x2 x3 σ) := by
  refine JS_of 2 (by decide +kernel) (Nat.le_of_ble_eq_true rfl) (L := [some (.ref (G.2.2.2.2.1 i)), some (.int x1), some (.int x2), some (.int x3), none, none]) rfl ?_
  unfold J1_indexOfChar_4cfef
  refine JO_iload_n (pc := 0) dJ1_indexOfChar_4cfef_0 rfl ?_
  refine JO_i2b (pc := 1) dJ1_indexOfChar_4cfef_1 ?_
  refine JO_nm (fun v1 => ?_)
  refine JO_istore (pc := 2) (L' := [some (.ref (G.2.2.2.2.1 i)), some (.int x1), some (.int x2), some (.int x3), some (.int v1), none]) dJ1_indexOfChar_4cfef_2 rfl rfl rfl ?_
  refine JO_iload_n (pc := 4) dJ1_indexOfChar_4cfef_4 rfl ?_
  refine JO_istore (pc := 5) (L' := [some (.ref (G.2.2.2.2.1 i)), some (.int x1), some (.int x2), some (.int x3), some (.int v1), some (.int x2)]) dJ1_indexOfChar_4cfef_5 rfl rfl rfl ?_
  exact JO_sub (l_sub_some (l_sub_none (l_sub_none (l_sub_some (l_sub_some (l_sub_some (l_sub_nil))))))) (w_J1_indexOfChar_4cfef_7 G d i hi fu x3 v1 x2 σ)
set_option maxHeartbeats 4000000 in
set_option maxRecDepth 100000 in
theorem w_J1_indexOf_4cfef (G : JG) (d : Nat) (i : Nat) (hi : i < 2) (x1 : Int32) (x2 : Int32) (x3 : Int32) (σ : Mem) : JS G mJ1_indexOf_4cfef (d + 1) [.ref (G.2.2.2.2.1 i), .int x1, .int x2, .int x3] σ rI (J1_indexOf_4cfef i x1 x2 x3 σ) := by
  refine JS_of 0 (by decide +kernel) (Nat.le_of_ble_eq_true rfl) (L := [some (.ref (G.2.2.2.2.1 i)), some (.int x1), some (.int x2), some (.int x3)]) rfl ?_
  unfold J1_indexOf_4cfef
  refine JO_iload_n (pc := 0) dJ1_indexOf_4cfef_0 rfl ?_
  refine JO_callSi (pc := 1) [.int x1] lk_J1_88 rfl (w_J1_canEncode_9a6ad G d x1 σ) rfl rfl (Nat.le_of_ble_eq_true rfl) dJ1_indexOf_4cfef_1 (fun r1 => ?_)
  refine JO_if_ne (pc := 4) (tgt := 9) dJ1_indexOf_4cfef_4 (by decide) ?_ ?_
  · refine JO_iload_n (pc := 9) dJ1_indexOf_4cfef_9 rfl ?_
    refine JO_iconst (pc := 10) (a := 0) dJ1_indexOf_4cfef_10 (by decide) ?_
    refine JO_mmax (pc := 11) lm_J1_92 rfl (Nat.le_of_ble_eq_true rfl) dJ1_indexOf_4cfef_11 ?_
    refine JO_nm (fun v2 => ?_)
    refine JO_istore_n (pc := 14) (L' := [some (.ref (G.2.2.2.2.1 i)), some (.int x1), some (.int v2), some (.int x3)]) dJ1_indexOf_4cfef_14 rfl rfl rfl ?_
    refine JO_iload_n (pc := 15) dJ1_indexOf_4cfef_15 rfl ?_
    refine JO_aload_n (pc := 16) dJ1_indexOf_4cfef_16 rfl ?_
    refine JO_blen (pc := 17) hi dJ1_indexOf_4cfef_17 ?_
    refine JO_mmin (pc := 18) lm_J1_38 rfl (Nat.le_of_ble_eq_true rfl) dJ1_indexOf_4cfef_18 ?_
    refine JO_nm (fun v3 => ?_)
    refine JO_istore_n (pc := 21) (L' := [some (.ref (G.2.2.2.2.1 i)), some (.int x1), some (.int v2), some (.int v3)]) dJ1_indexOf_4cfef_21 rfl rfl rfl ?_
    refine JO_iload_n (pc := 22) dJ1_indexOf_4cfef_22 rfl ?_
    refine JO_iload_n (pc := 23) dJ1_indexOf_4cfef_23 rfl ?_
    refine JO_icmp_lt (pc := 24) (tgt := 29) dJ1_indexOf_4cfef_24 (by decide) ?_ ?_
    · refine JO_aload_n (pc := 29) dJ1_indexOf_4cfef_29 rfl ?_
      refine JO_iload_n (pc := 30) dJ1_indexOf_4cfef_30 rfl ?_
      refine JO_iload_n (pc := 31) dJ1_indexOf_4cfef_31 rfl ?_
      refine JO_iload_n (pc := 32) dJ1_indexOf_4cfef_32 rfl ?_
      refine JO_callSi (pc := 33) [.ref (G.2.2.2.2.1 i), .int x1, .int v2, .int v3] lk_J1_95 rfl (w_J1_indexOfChar_4cfef G d i hi x1 v2 v3 r1.2) rfl rfl (Nat.le_of_ble_eq_true rfl) dJ1_indexOf_4cfef_33 (fun r4 => ?_)
      exact JO_reti (pc := 36) rfl dJ1_indexOf_4cfef_36
    · refine JO_iconst (pc := 27) (a := (-1)) dJ1_indexOf_4cfef_27 (by decide) ?_
      exact JO_reti (pc := 28) rfl dJ1_indexOf_4cfef_28
  · refine JO_iconst (pc := 7) (a := (-1)) dJ1_indexOf_4cfef_7 (by decide) ?_
    exact JO_reti (pc := 8) rfl dJ1_indexOf_4cfef_8
set_option maxHeartbeats 4000000 in
set_option maxRecDepth 100000 in
theorem w_J0_indexOf_7cf53 (G : JG) (d : Nat) (i : Nat) (hi : i < 2) (x1 : Int32) (x2 : Int32) (σ : Mem) : JS G mJ0_indexOf_7cf53 (d + 2) [.ref (G.2.2.2.1 i), .int x1, .int x2] σ rI (J0_indexOf_7cf53 i x1 x2 σ) := by
  refine JS_of 0 (by decide +kernel) (Nat.le_of_ble_eq_true rfl) (L := [some (.ref (G.2.2.2.1 i)), some (.int x1), some (.int x2)]) rfl ?_
  unfold J0_indexOf_7cf53
  refine JO_aload_n (pc := 0) dJ0_indexOf_7cf53_0 rfl ?_
  refine JO_callTi (pc := 1) [] lk_J0_492 rfl hi (w_J0_isLatin1_aae02 G (d + 1) i hi σ) rfl rfl rfl (Nat.le_of_ble_eq_true rfl) dJ0_indexOf_7cf53_1 (fun r1 => ?_)
  refine JO_if_eq (pc := 4) (tgt := 23) dJ0_indexOf_7cf53_4 (by decide) ?_ ?_
  · refine JO_aload_n (pc := 23) dJ0_indexOf_7cf53_23 rfl ?_
    refine JO_strval (pc := 24) hi fs_J0_9 rfl dJ0_indexOf_7cf53_24 ?_
    refine JO_iload_n (pc := 27) dJ0_indexOf_7cf53_27 rfl ?_
    refine JO_iload_n (pc := 28) dJ0_indexOf_7cf53_28 rfl ?_
    refine JO_aload_n (pc := 29) dJ0_indexOf_7cf53_29 rfl ?_
    refine JO_callTi (pc := 30) [] lk_J0_505 rfl hi (w_J0_length_8abf5 G d i hi r1.2) rfl rfl rfl (Nat.le_of_ble_eq_true rfl) dJ0_indexOf_7cf53_30 (fun r2 => ?_)
    exact JO_none
  · refine JO_aload_n (pc := 7) dJ0_indexOf_7cf53_7 rfl ?_
    refine JO_strval (pc := 8) hi fs_J0_9 rfl dJ0_indexOf_7cf53_8 ?_
    refine JO_iload_n (pc := 11) dJ0_indexOf_7cf53_11 rfl ?_
    refine JO_iload_n (pc := 12) dJ0_indexOf_7cf53_12 rfl ?_
    refine JO_aload_n (pc := 13) dJ0_indexOf_7cf53_13 rfl ?_
    refine JO_callTi (pc := 14) [] lk_J0_505 rfl hi (w_J0_length_8abf5 G d i hi r1.2) rfl rfl rfl (Nat.le_of_ble_eq_true rfl) dJ0_indexOf_7cf53_14 (fun r3 => ?_)
    refine JO_callSi (pc := 17) [.ref (G.2.2.2.2.1 i), .int x1, .int x2, .int r3.1] lk_J0_637 rfl (w_J1_indexOf_4cfef G d i hi x1 x2 r3.1 r3.2) rfl rfl (Nat.le_of_ble_eq_true rfl) dJ0_indexOf_7cf53_17 (fun r4 => ?_)
    refine JO_goto (pc := 20) (tgt := 36) dJ0_indexOf_7cf53_20 (by decide) ?_
    exact JO_reti (pc := 36) rfl dJ0_indexOf_7cf53_36
set_option maxHeartbeats 4000000 in
set_option maxRecDepth 100000 in
theorem w_J0_indexOf_0f7a4 (G : JG) (d : Nat) (i : Nat) (hi : i < 2) (x1 : Int32) (σ : Mem) : JS G mJ0_indexOf_0f7a4 (d + 3) [.ref (G.2.2.2.1 i), .int x1] σ rI (J0_indexOf_0f7a4 i x1 σ) := by
  refine JS_of 0 (by decide +kernel) (Nat.le_of_ble_eq_true rfl) (L := [some (.ref (G.2.2.2.1 i)), some (.int x1)]) rfl ?_
  unfold J0_indexOf_0f7a4
  refine JO_aload_n (pc := 0) dJ0_indexOf_0f7a4_0 rfl ?_
  refine JO_iload_n (pc := 1) dJ0_indexOf_0f7a4_1 rfl ?_
  refine JO_iconst (pc := 2) (a := 0) dJ0_indexOf_0f7a4_2 (by decide) ?_
  refine JO_callTi (pc := 3) [.int x1, .int 0] lk_J0_633 rfl hi (w_J0_indexOf_7cf53 G d i hi x1 0 σ) rfl rfl rfl (Nat.le_of_ble_eq_true rfl) dJ0_indexOf_0f7a4_3 (fun r1 => ?_)
  exact JO_reti (pc := 6) rfl dJ0_indexOf_0f7a4_6
set_option maxHeartbeats 4000000 in
set_option maxRecDepth 100000 in
theorem w_X9_next_199 (G : JG) (d : Nat) (k200 : Int32 → Mem → Option Mem) (hk200 : ∀ (s0 : Int32) (σ : Mem), JO G mX9_next (d + 5) 200 [none, none] [.int s0, .ref (G.1 + off 3)] σ rV (k200 s0 σ)) : ∀ (σ : Mem), JO G mX9_next (d + 5) 199 [none, none] [.ref (G.1 + off 3)] σ rV (X9_next_199 k200 σ) := by
  intro σ
  unfold X9_next_199
  refine JO_iconst (pc := 199) (a := 1) dX9_next_199 (by decide) ?_
  exact JO_sub (l_sub_none (l_sub_none (l_sub_nil))) (hk200 1 σ)
set_option maxHeartbeats 4000000 in
set_option maxRecDepth 100000 in
theorem w_X9_next_200 (G : JG) (d : Nat) : ∀ (s0 : Int32) (σ : Mem), JO G mX9_next (d + 5) 200 [none, none] [.int s0, .ref (G.1 + off 3)] σ rV (X9_next_200 s0 σ) := by
  intro s0 σ
  unfold X9_next_200
  refine JO_putI (pc := 200) fl_X9_34 rfl fkX9_kind dX9_next_200 (fun σ14 => ?_)
  exact JO_retv (pc := 203) rfl dX9_next_203
set_option maxHeartbeats 4000000 in
set_option maxRecDepth 100000 in
theorem w_X9_next_122 (G : JG) (d : Nat) : ∀ (s0 : Int32) (σ : Mem), JO G mX9_next (d + 5) 122 [none, none] [.int s0, .ref (G.1 + off 3)] σ rV (X9_next_122 s0 σ) := by
  intro s0 σ
  unfold X9_next_122
  refine JO_putI (pc := 122) fl_X9_34 rfl fkX9_kind dX9_next_122 (fun σ15 => ?_)
  refine JO_goto (pc := 125) (tgt := 203) dX9_next_125 (by decide) ?_
  exact JO_retv (pc := 203) rfl dX9_next_203
set_option maxHeartbeats 4000000 in
set_option maxRecDepth 100000 in
theorem w_X9_next_51 (G : JG) (d : Nat) (k13 : Int32 → Mem → Option Mem) (hk13 : ∀ (x1 : Int32) (σ : Mem), JO G mX9_next (d + 5) 13 [some (.ref (G.1 + off 3)), some (.int x1)] [] σ rV (k13 x1 σ)) : ∀ (x1 : Int32) (σ : Mem), JO G mX9_next (d + 5) 51 [some (.ref (G.1 + off 3)), some (.int x1)] [] σ rV (X9_next_51 k13 x1 σ) := by
  intro x1 σ
  unfold X9_next_51
  refine JO_inc (pc := 51) (b := 1) (L' := fun v13 => [some (.ref (G.1 + off 3)), some (.int v13)]) dX9_next_51 rfl rfl (by decide) rfl (fun _ => rfl) (fun v13 => ?_)
  refine JO_goto (pc := 54) (tgt := 13) dX9_next_54 (by decide) ?_
  exact JO_sub (l_sub_some (l_sub_some (l_sub_nil))) (hk13 v13 σ)
set_option maxHeartbeats 4000000 in
set_option maxRecDepth 100000 in
theorem w_X9_next_57 (G : JG) (d : Nat) : ∀ (σ : Mem), JO G mX9_next (d + 5) 57 [some (.ref (G.1 + off 3)), none] [] σ rV (X9_next_57 σ) := by
  intro σ
  unfold X9_next_57
  refine JO_aload_n (pc := 57) dX9_next_57 rfl ?_
  refine JO_aload_n (pc := 58) dX9_next_58 rfl ?_
  refine JO_getI (pc := 59) fl_X9_31 rfl fkX9_start dX9_next_59 ?_
  refine JO_putI (pc := 62) fl_X9_25 rfl fkX9_end dX9_next_62 (fun σ4 => ?_)
  refine JO_aload_n (pc := 65) dX9_next_65 rfl ?_
  refine JO_getI (pc := 66) fl_X9_31 rfl fkX9_start dX9_next_66 ?_
  refine JO_aload_n (pc := 69) dX9_next_69 rfl ?_
  refine JO_getI (pc := 70) fl_X9_21 rfl fkX9_textLength dX9_next_70 ?_
  refine JO_icmp_lt (pc := 73) (tgt := 84) dX9_next_73 (by decide) ?_ ?_
  · refine JO_aload_n (pc := 84) dX9_next_84 rfl ?_
    refine JO_aload_n (pc := 85) dX9_next_85 rfl ?_
    refine JO_getI (pc := 86) fl_X9_31 rfl fkX9_start dX9_next_86 ?_
    refine JO_callVi (pc := 89) [.int (σ4.1 3 3)] lk_X9_37 rfl (ci := 9) rfl shX9 (w_X9_isLetter G (d + 4) (σ4.1 3 3) σ4) rfl rfl (Nat.le_of_ble_eq_true rfl) dX9_next_89 (fun r5 => ?_)
    refine JO_if_eq (pc := 92) (tgt := 128) dX9_next_92 (by decide) ?_ ?_
    · refine JO_aload_n (pc := 128) dX9_next_128 rfl ?_
      refine JO_aload_n (pc := 129) dX9_next_129 rfl ?_
      refine JO_getI (pc := 130) fl_X9_31 rfl fkX9_start dX9_next_130 ?_
      refine JO_callVi (pc := 133) [.int (r5.2.1 3 3)] lk_X9_48 rfl (ci := 9) rfl shX9 (w_X9_isDigit G (d + 4) (r5.2.1 3 3) r5.2) rfl rfl (Nat.le_of_ble_eq_true rfl) dX9_next_133 (fun r6 => ?_)
      refine JO_if_eq (pc := 136) (tgt := 146) dX9_next_136 (by decide) ?_ ?_
      · refine JO_aload_n (pc := 146) dX9_next_146 rfl ?_
        refine JO_aload_n (pc := 147) dX9_next_147 rfl ?_
        refine JO_getI (pc := 148) fl_X9_31 rfl fkX9_start dX9_next_148 ?_
        refine JO_iconst (pc := 151) (a := 1) dX9_next_151 (by decide) ?_
        refine JO_iadd (pc := 152) dX9_next_152 ?_
        refine JO_putI (pc := 153) fl_X9_25 rfl fkX9_end dX9_next_153 (fun σ7 => ?_)
        refine JO_aload_n (pc := 156) dX9_next_156 rfl ?_
        refine JO_aload_n (pc := 157) dX9_next_157 rfl ?_
        refine JO_getM (pc := 158) fl_X9_9 rfl 1 (by decide) (by decide) fkX9_text dX9_next_158 ?_
        refine JO_aload_n (pc := 161) dX9_next_161 rfl ?_
        refine JO_getI (pc := 162) fl_X9_31 rfl fkX9_start dX9_next_162 ?_
        refine JO_bald (pc := 165) akX11_tape dX9_next_165 ?_
        refine JO_if_le (pc := 166) (tgt := 199) dX9_next_166 (by decide) ?_ ?_
        · exact JO_sub (l_sub_none (l_sub_none (l_sub_nil))) (w_X9_next_199 G d _ (w_X9_next_200 G d)  σ7)
        · refine JO_ldcs (pc := 169) (i := 0) (by decide) rfl rfl dX9_next_169 ?_
          refine JO_aload_n (pc := 171) dX9_next_171 rfl ?_
          refine JO_getM (pc := 172) fl_X9_9 rfl 1 (by decide) (by decide) fkX9_text dX9_next_172 ?_
          refine JO_aload_n (pc := 175) dX9_next_175 rfl ?_
          refine JO_getI (pc := 176) fl_X9_31 rfl fkX9_start dX9_next_176 ?_
          refine JO_bald (pc := 179) akX11_tape dX9_next_179 ?_
          refine JO_i2c (pc := 180) dX9_next_180 ?_
          refine JO_callTi (pc := 181) [.int (((σ7.1 1 (σ7.1 3 3).toNatClampNeg).toUInt32 % 65536).toInt32)] lk_X9_56 rfl (by decide) (w_J0_indexOf_0f7a4 G (d + 1) 0 (by decide) (((σ7.1 1 (σ7.1 3 3).toNatClampNeg).toUInt32 % 65536).toInt32) σ7) rfl rfl rfl (Nat.le_of_ble_eq_true rfl) dX9_next_181 (fun r8 => ?_)
          refine JO_if_lt (pc := 184) (tgt := 199) dX9_next_184 (by decide) ?_ ?_
          · exact JO_sub (l_sub_none (l_sub_none (l_sub_nil))) (w_X9_next_199 G d _ (w_X9_next_200 G d)  r8.2)
          · refine JO_aload_n (pc := 187) dX9_next_187 rfl ?_
            refine JO_getM (pc := 188) fl_X9_9 rfl 1 (by decide) (by decide) fkX9_text dX9_next_188 ?_
            refine JO_aload_n (pc := 191) dX9_next_191 rfl ?_
            refine JO_getI (pc := 192) fl_X9_31 rfl fkX9_start dX9_next_192 ?_
            refine JO_bald (pc := 195) akX11_tape dX9_next_195 ?_
            refine JO_goto (pc := 196) (tgt := 200) dX9_next_196 (by decide) ?_
            exact JO_sub (l_sub_none (l_sub_none (l_sub_nil))) (w_X9_next_200 G d (r8.2.1 1 (r8.2.1 3 3).toNatClampNeg) r8.2)
      · refine JO_aload_n (pc := 139) dX9_next_139 rfl ?_
        refine JO_callVv (pc := 140) [] lk_X9_51 rfl (ci := 9) rfl shX9 (w_X9_readNumber G (d + 3)  r6.2) rfl rfl (Nat.le_of_ble_eq_true rfl) dX9_next_140 (fun σ9 => ?_)
        refine JO_goto (pc := 143) (tgt := 203) dX9_next_143 (by decide) ?_
        exact JO_retv (pc := 203) rfl dX9_next_203
    · refine JO_aload_n (pc := 95) dX9_next_95 rfl ?_
      refine JO_callVv (pc := 96) [] lk_X9_41 rfl (ci := 9) rfl shX9 (w_X9_readLetters G (d + 3)  r5.2) rfl rfl (Nat.le_of_ble_eq_true rfl) dX9_next_96 (fun σ10 => ?_)
      refine JO_aload_n (pc := 99) dX9_next_99 rfl ?_
      refine JO_aload_n (pc := 100) dX9_next_100 rfl ?_
      refine JO_getI (pc := 101) fl_X9_25 rfl fkX9_end dX9_next_101 ?_
      refine JO_aload_n (pc := 104) dX9_next_104 rfl ?_
      refine JO_getI (pc := 105) fl_X9_31 rfl fkX9_start dX9_next_105 ?_
      refine JO_isub (pc := 108) dX9_next_108 ?_
      refine JO_bipush (pc := 109) (a := 8) dX9_next_109 (by decide) ?_
      refine JO_icmp_le (pc := 111) (tgt := 118) dX9_next_111 (by decide) ?_ ?_
      · refine JO_aload_n (pc := 118) dX9_next_118 rfl ?_
        refine JO_callVi (pc := 119) [] lk_X9_44 rfl (ci := 9) rfl shX9 (w_X9_kindOfWord G d  σ10) rfl rfl (Nat.le_of_ble_eq_true rfl) dX9_next_119 (fun r11 => ?_)
        exact JO_sub (l_sub_none (l_sub_none (l_sub_nil))) (w_X9_next_122 G d r11.1 r11.2)
      · refine JO_iconst (pc := 114) (a := 1) dX9_next_114 (by decide) ?_
        refine JO_goto (pc := 115) (tgt := 122) dX9_next_115 (by decide) ?_
        exact JO_sub (l_sub_none (l_sub_none (l_sub_nil))) (w_X9_next_122 G d 1 σ10)
  · refine JO_aload_n (pc := 76) dX9_next_76 rfl ?_
    refine JO_iconst (pc := 77) (a := 0) dX9_next_77 (by decide) ?_
    refine JO_putI (pc := 78) fl_X9_34 rfl fkX9_kind dX9_next_78 (fun σ12 => ?_)
    refine JO_goto (pc := 81) (tgt := 203) dX9_next_81 (by decide) ?_
    exact JO_retv (pc := 203) rfl dX9_next_203
set_option maxHeartbeats 4000000 in
set_option maxRecDepth 100000 in
theorem w_X9_next_13 (G : JG) (d : Nat) : ∀ (n : Nat) (x1 : Int32) (σ : Mem), JO G mX9_next (d + 5) 13 [some (.ref (G.1 + off 3)), some (.int x1)] [] σ rV (X9_next_13 n x1 σ) := by
  intro n
  induction n with
  | zero =>
    intro x1 σ
    exact JO_none
  | succ n ih =>
    intro x1 σ
    rw [X9_next_13]
    refine JO_iload_n (pc := 13) dX9_next_13 rfl ?_
    refine JO_aload_n (pc := 14) dX9_next_14 rfl ?_
    refine JO_getI (pc := 15) fl_X9_21 rfl fkX9_textLength dX9_next_15 ?_
    refine JO_icmp_ge (pc := 18) (tgt := 57) dX9_next_18 (by decide) ?_ ?_
    · exact JO_sub (l_sub_some (l_sub_none (l_sub_nil))) (w_X9_next_57 G d  σ)
    · refine JO_aload_n (pc := 21) dX9_next_21 rfl ?_
      refine JO_getM (pc := 22) fl_X9_9 rfl 1 (by decide) (by decide) fkX9_text dX9_next_22 ?_
      refine JO_iload_n (pc := 25) dX9_next_25 rfl ?_
      refine JO_bald (pc := 26) akX11_tape dX9_next_26 ?_
      refine JO_bipush (pc := 27) (a := 32) dX9_next_27 (by decide) ?_
      refine JO_icmp_eq (pc := 29) (tgt := 51) dX9_next_29 (by decide) ?_ ?_
      · exact JO_sub (l_sub_some (l_sub_some (l_sub_nil))) (w_X9_next_51 G d _ (ih) x1 σ)
      · refine JO_aload_n (pc := 32) dX9_next_32 rfl ?_
        refine JO_getM (pc := 33) fl_X9_9 rfl 1 (by decide) (by decide) fkX9_text dX9_next_33 ?_
        refine JO_iload_n (pc := 36) dX9_next_36 rfl ?_
        refine JO_bald (pc := 37) akX11_tape dX9_next_37 ?_
        refine JO_bipush (pc := 38) (a := 10) dX9_next_38 (by decide) ?_
        refine JO_icmp_eq (pc := 40) (tgt := 51) dX9_next_40 (by decide) ?_ ?_
        · exact JO_sub (l_sub_some (l_sub_some (l_sub_nil))) (w_X9_next_51 G d _ (ih) x1 σ)
        · refine JO_aload_n (pc := 43) dX9_next_43 rfl ?_
          refine JO_iload_n (pc := 44) dX9_next_44 rfl ?_
          refine JO_putI (pc := 45) fl_X9_31 rfl fkX9_start dX9_next_45 (fun σ3 => ?_)
          refine JO_goto (pc := 48) (tgt := 57) dX9_next_48 (by decide) ?_
          exact JO_sub (l_sub_some (l_sub_none (l_sub_nil))) (w_X9_next_57 G d  σ3)
set_option maxHeartbeats 4000000 in
set_option maxRecDepth 100000 in
theorem w_X9_next (G : JG) (d : Nat) (σ : Mem) : JS G mX9_next (d + 5) [.ref (G.1 + off 3)] σ rV (X9_next σ) := by
  refine JS_of 1 (by decide +kernel) (Nat.le_of_ble_eq_true rfl) (L := [some (.ref (G.1 + off 3)), none]) rfl ?_
  unfold X9_next
  refine JO_aload_n (pc := 0) dX9_next_0 rfl ?_
  refine JO_aload_n (pc := 1) dX9_next_1 rfl ?_
  refine JO_getI (pc := 2) fl_X9_21 rfl fkX9_textLength dX9_next_2 ?_
  refine JO_putI (pc := 5) fl_X9_31 rfl fkX9_start dX9_next_5 (fun σ1 => ?_)
  refine JO_aload_n (pc := 8) dX9_next_8 rfl ?_
  refine JO_getI (pc := 9) fl_X9_25 rfl fkX9_end dX9_next_9 ?_
  refine JO_nm (fun v2 => ?_)
  refine JO_istore_n (pc := 12) (L' := [some (.ref (G.1 + off 3)), some (.int v2)]) dX9_next_12 rfl rfl rfl ?_
  exact JO_sub (l_sub_some (l_sub_some (l_sub_nil))) (w_X9_next_13 G d fu v2 σ1)
set_option maxHeartbeats 4000000 in
set_option maxRecDepth 100000 in
theorem w_X9_begin (G : JG) (d : Nat) (x2 : Int32) (σ : Mem) : JS G mX9_begin (d + 6) [.ref (G.1 + off 3), .ref (G.1 + off 1), .int x2] σ rV (X9_begin x2 σ) := by
  refine JS_of 0 (by decide +kernel) (Nat.le_of_ble_eq_true rfl) (L := [some (.ref (G.1 + off 3)), some (.ref (G.1 + off 1)), some (.int x2)]) rfl ?_
  unfold X9_begin
  refine JO_aload_n (pc := 0) dX9_begin_0 rfl ?_
  refine JO_aload_n (pc := 1) dX9_begin_1 rfl ?_
  refine JO_putM (pc := 2) fl_X9_9 rfl (by decide) (fun _ => rfl) (fun _ => rfl) fkX9_text dX9_begin_2 (fun σ1 => ?_)
  refine JO_aload_n (pc := 5) dX9_begin_5 rfl ?_
  refine JO_iload_n (pc := 6) dX9_begin_6 rfl ?_
  refine JO_aload_n (pc := 7) dX9_begin_7 rfl ?_
  refine JO_alen (pc := 8) (a := 1600) akX11_tape (by decide) (by decide) dX9_begin_8 ?_
  refine JO_mmin (pc := 9) lm_X9_15 rfl (Nat.le_of_ble_eq_true rfl) dX9_begin_9 ?_
  refine JO_putI (pc := 12) fl_X9_21 rfl fkX9_textLength dX9_begin_12 (fun σ2 => ?_)
  refine JO_aload_n (pc := 15) dX9_begin_15 rfl ?_
  refine JO_iconst (pc := 16) (a := 0) dX9_begin_16 (by decide) ?_
  refine JO_putI (pc := 17) fl_X9_25 rfl fkX9_end dX9_begin_17 (fun σ3 => ?_)
  refine JO_aload_n (pc := 20) dX9_begin_20 rfl ?_
  refine JO_callVv (pc := 21) [] lk_X9_28 rfl (ci := 9) rfl shX9 (w_X9_next G d  σ3) rfl rfl (Nat.le_of_ble_eq_true rfl) dX9_begin_21 (fun σ4 => ?_)
  exact JO_retv (pc := 24) rfl dX9_begin_24
set_option maxHeartbeats 4000000 in
set_option maxRecDepth 100000 in
theorem w_X5_isGood (G : JG) (d : Nat) (σ : Mem) : JS G mX5_isGood d [.ref (G.1 + off 2)] σ rI (X5_isGood σ) := by
  refine JS_of 0 (by decide +kernel) (Nat.le_of_ble_eq_true rfl) (L := [some (.ref (G.1 + off 2))]) rfl ?_
  unfold X5_isGood
  refine JO_aload_n (pc := 0) dX5_isGood_0 rfl ?_
  refine JO_getI (pc := 1) fl_X5_36 rfl fkX5_fault dX5_isGood_1 ?_
  refine JO_if_ne (pc := 4) (tgt := 11) dX5_isGood_4 (by decide) ?_ ?_
  · refine JO_iconst (pc := 11) (a := 0) dX5_isGood_11 (by decide) ?_
    exact JO_retzc (pc := 12) (by decide) rfl dX5_isGood_12
  · refine JO_iconst (pc := 7) (a := 1) dX5_isGood_7 (by decide) ?_
    refine JO_goto (pc := 8) (tgt := 12) dX5_isGood_8 (by decide) ?_
    exact JO_retzc (pc := 12) (by decide) rfl dX5_isGood_12
set_option maxHeartbeats 4000000 in
set_option maxRecDepth 100000 in
theorem w_X5_fail_24 (G : JG) (d : Nat) : ∀ (s0 : Int32) (σ : Mem), JO G mX5_fail (d + 1) 24 [some (.ref (G.1 + off 2)), none] [.int s0, .ref (G.1 + off 2)] σ rV (X5_fail_24 s0 σ) := by
  intro s0 σ
  unfold X5_fail_24
  refine JO_putI (pc := 24) fl_X5_36 rfl fkX5_fault dX5_fail_24 (fun σ2 => ?_)
  refine JO_aload_n (pc := 27) dX5_fail_27 rfl ?_
  refine JO_aload_n (pc := 28) dX5_fail_28 rfl ?_
  refine JO_getR (pc := 29) fl_X5_12 rfl fkX5_tokens dX5_fail_29 ?_
  refine JO_getI (pc := 32) fl_X5_84 rfl fkX9_start dX5_fail_32 ?_
  refine JO_putI (pc := 35) fl_X5_32 rfl fkX5_faultPlace dX5_fail_35 (fun σ3 => ?_)
  exact JO_retv (pc := 38) rfl dX5_fail_38
set_option maxHeartbeats 4000000 in
set_option maxRecDepth 100000 in
theorem w_X5_fail (G : JG) (d : Nat) (x1 : Int32) (σ : Mem) : JS G mX5_fail (d + 1) [.ref (G.1 + off 2), .int x1] σ rV (X5_fail x1 σ) := by
  refine JS_of 0 (by decide +kernel) (Nat.le_of_ble_eq_true rfl) (L := [some (.ref (G.1 + off 2)), some (.int x1)]) rfl ?_
  unfold X5_fail
  refine JO_aload_n (pc := 0) dX5_fail_0 rfl ?_
  refine JO_callVi (pc := 1) [] lk_X5_46 rfl (ci := 5) rfl shX5 (w_X5_isGood G d  σ) rfl rfl (Nat.le_of_ble_eq_true rfl) dX5_fail_1 (fun r1 => ?_)
  refine JO_if_eq (pc := 4) (tgt := 38) dX5_fail_4 (by decide) ?_ ?_
  · exact JO_retv (pc := 38) rfl dX5_fail_38
  · refine JO_aload_n (pc := 7) dX5_fail_7 rfl ?_
    refine JO_aload_n (pc := 8) dX5_fail_8 rfl ?_
    refine JO_getR (pc := 9) fl_X5_12 rfl fkX5_tokens dX5_fail_9 ?_
    refine JO_getI (pc := 12) fl_X5_50 rfl fkX9_kind dX5_fail_12 ?_
    refine JO_iconst (pc := 15) (a := 1) dX5_fail_15 (by decide) ?_
    refine JO_icmp_ne (pc := 16) (tgt := 23) dX5_fail_16 (by decide) ?_ ?_
    · refine JO_iload_n (pc := 23) dX5_fail_23 rfl ?_
      exact JO_sub (l_sub_some (l_sub_none (l_sub_nil))) (w_X5_fail_24 G d x1 r1.2)
    · refine JO_iconst (pc := 19) (a := 1) dX5_fail_19 (by decide) ?_
      refine JO_goto (pc := 20) (tgt := 24) dX5_fail_20 (by decide) ?_
      exact JO_sub (l_sub_some (l_sub_none (l_sub_nil))) (w_X5_fail_24 G d 1 r1.2)
set_option maxHeartbeats 4000000 in
set_option maxRecDepth 100000 in
theorem w_X5_isAt (G : JG) (d : Nat) (x1 : Int32) (σ : Mem) : JS G mX5_isAt (d + 1) [.ref (G.1 + off 2), .int x1] σ rI (X5_isAt x1 σ) := by
  refine JS_of 0 (by decide +kernel) (Nat.le_of_ble_eq_true rfl) (L := [some (.ref (G.1 + off 2)), some (.int x1)]) rfl ?_
  unfold X5_isAt
  refine JO_aload_n (pc := 0) dX5_isAt_0 rfl ?_
  refine JO_callVi (pc := 1) [] lk_X5_46 rfl (ci := 5) rfl shX5 (w_X5_isGood G d  σ) rfl rfl (Nat.le_of_ble_eq_true rfl) dX5_isAt_1 (fun r1 => ?_)
  refine JO_if_eq (pc := 4) (tgt := 22) dX5_isAt_4 (by decide) ?_ ?_
  · refine JO_iconst (pc := 22) (a := 0) dX5_isAt_22 (by decide) ?_
    exact JO_retzc (pc := 23) (by decide) rfl dX5_isAt_23
  · refine JO_aload_n (pc := 7) dX5_isAt_7 rfl ?_
    refine JO_getR (pc := 8) fl_X5_12 rfl fkX5_tokens dX5_isAt_8 ?_
    refine JO_getI (pc := 11) fl_X5_50 rfl fkX9_kind dX5_isAt_11 ?_
    refine JO_iload_n (pc := 14) dX5_isAt_14 rfl ?_
    refine JO_icmp_ne (pc := 15) (tgt := 22) dX5_isAt_15 (by decide) ?_ ?_
    · refine JO_iconst (pc := 22) (a := 0) dX5_isAt_22 (by decide) ?_
      exact JO_retzc (pc := 23) (by decide) rfl dX5_isAt_23
    · refine JO_iconst (pc := 18) (a := 1) dX5_isAt_18 (by decide) ?_
      refine JO_goto (pc := 19) (tgt := 23) dX5_isAt_19 (by decide) ?_
      exact JO_retzc (pc := 23) (by decide) rfl dX5_isAt_23
set_option maxHeartbeats 4000000 in
set_option maxRecDepth 100000 in
theorem w_X5_expectNumber_33 (G : JG) (d : Nat) : ∀ (σ : Mem), JO G mX5_expectNumber (d + 6) 33 [some (.ref (G.1 + off 2)), none, none, none] [] σ rI (X5_expectNumber_33 σ) := by
  intro σ
  unfold X5_expectNumber_33
  refine JO_aload_n (pc := 33) dX5_expectNumber_33 rfl ?_
  refine JO_iconst (pc := 34) (a := 4) dX5_expectNumber_34 (by decide) ?_
  refine JO_callVv (pc := 35) [.int 4] lk_X5_77 rfl (ci := 5) rfl shX5 (w_X5_fail G (d + 4) 4 σ) rfl rfl (Nat.le_of_ble_eq_true rfl) dX5_expectNumber_35 (fun σ5 => ?_)
  refine JO_iconst (pc := 38) (a := 0) dX5_expectNumber_38 (by decide) ?_
  exact JO_reti (pc := 39) rfl dX5_expectNumber_39
set_option maxHeartbeats 4000000 in
set_option maxRecDepth 100000 in
theorem w_X5_expectNumber (G : JG) (d : Nat) (x1 : Int32) (x2 : Int32) (σ : Mem) : JS G mX5_expectNumber (d + 6) [.ref (G.1 + off 2), .int x1, .int x2] σ rI (X5_expectNumber x1 x2 σ) := by
  refine JS_of 1 (by decide +kernel) (Nat.le_of_ble_eq_true rfl) (L := [some (.ref (G.1 + off 2)), some (.int x1), some (.int x2), none]) rfl ?_
  unfold X5_expectNumber
  refine JO_aload_n (pc := 0) dX5_expectNumber_0 rfl ?_
  refine JO_iconst (pc := 1) (a := 2) dX5_expectNumber_1 (by decide) ?_
  refine JO_callVi (pc := 2) [.int 2] lk_X5_87 rfl (ci := 5) rfl shX5 (w_X5_isAt G (d + 4) 2 σ) rfl rfl (Nat.le_of_ble_eq_true rfl) dX5_expectNumber_2 (fun r1 => ?_)
  refine JO_if_ne (pc := 5) (tgt := 15) dX5_expectNumber_5 (by decide) ?_ ?_
  · refine JO_aload_n (pc := 15) dX5_expectNumber_15 rfl ?_
    refine JO_getR (pc := 16) fl_X5_12 rfl fkX5_tokens dX5_expectNumber_16 ?_
    refine JO_getI (pc := 19) fl_X5_94 rfl fkX9_number dX5_expectNumber_19 ?_
    refine JO_nm (fun v2 => ?_)
    refine JO_istore_n (pc := 22) (L' := [some (.ref (G.1 + off 2)), some (.int x1), some (.int x2), some (.int v2)]) dX5_expectNumber_22 rfl rfl rfl ?_
    refine JO_iload_n (pc := 23) dX5_expectNumber_23 rfl ?_
    refine JO_iload_n (pc := 24) dX5_expectNumber_24 rfl ?_
    refine JO_icmp_lt (pc := 25) (tgt := 33) dX5_expectNumber_25 (by decide) ?_ ?_
    · exact JO_sub (l_sub_some (l_sub_none (l_sub_none (l_sub_none (l_sub_nil))))) (w_X5_expectNumber_33 G d  r1.2)
    · refine JO_iload_n (pc := 28) dX5_expectNumber_28 rfl ?_
      refine JO_iload_n (pc := 29) dX5_expectNumber_29 rfl ?_
      refine JO_icmp_le (pc := 30) (tgt := 40) dX5_expectNumber_30 (by decide) ?_ ?_
      · refine JO_aload_n (pc := 40) dX5_expectNumber_40 rfl ?_
        refine JO_getR (pc := 41) fl_X5_12 rfl fkX5_tokens dX5_expectNumber_41 ?_
        refine JO_callVv (pc := 44) [] lk_X5_91 rfl (ci := 9) rfl shX9 (w_X9_next G d  r1.2) rfl rfl (Nat.le_of_ble_eq_true rfl) dX5_expectNumber_44 (fun σ3 => ?_)
        refine JO_iload_n (pc := 47) dX5_expectNumber_47 rfl ?_
        exact JO_reti (pc := 48) rfl dX5_expectNumber_48
      · exact JO_sub (l_sub_some (l_sub_none (l_sub_none (l_sub_none (l_sub_nil))))) (w_X5_expectNumber_33 G d  r1.2)
  · refine JO_aload_n (pc := 8) dX5_expectNumber_8 rfl ?_
    refine JO_iconst (pc := 9) (a := 2) dX5_expectNumber_9 (by decide) ?_
    refine JO_callVv (pc := 10) [.int 2] lk_X5_77 rfl (ci := 5) rfl shX5 (w_X5_fail G (d + 4) 2 r1.2) rfl rfl (Nat.le_of_ble_eq_true rfl) dX5_expectNumber_10 (fun σ4 => ?_)
    refine JO_iconst (pc := 13) (a := 0) dX5_expectNumber_13 (by decide) ?_
    exact JO_reti (pc := 14) rfl dX5_expectNumber_14
set_option maxHeartbeats 4000000 in
set_option maxRecDepth 100000 in
theorem w_X5_readDay (G : JG) (d : Nat) (x1 : Int32) (σ : Mem) : JS G mX5_readDay (d + 7) [.ref (G.1 + off 2), .int x1] σ rV (X5_readDay x1 σ) := by
  refine JS_of 0 (by decide +kernel) (Nat.le_of_ble_eq_true rfl) (L := [some (.ref (G.1 + off 2)), some (.int x1)]) rfl ?_
  unfold X5_readDay
  refine JO_iload_n (pc := 0) dX5_readDay_0 rfl ?_
  refine JO_if_ne (pc := 1) (tgt := 10) dX5_readDay_1 (by decide) ?_ ?_
  · refine JO_aload_n (pc := 10) dX5_readDay_10 rfl ?_
    refine JO_getR (pc := 11) fl_X5_12 rfl fkX5_tokens dX5_readDay_11 ?_
    refine JO_callVv (pc := 14) [] lk_X5_91 rfl (ci := 9) rfl shX9 (w_X9_next G (d + 1)  σ) rfl rfl (Nat.le_of_ble_eq_true rfl) dX5_readDay_14 (fun σ1 => ?_)
    refine JO_aload_n (pc := 17) dX5_readDay_17 rfl ?_
    refine JO_getT (pc := 18) fl_X5_28 rfl fkX5_town dX5_readDay_18 (fun q2 hq2 => ?_)
    refine JO_aload_n (pc := 21) dX5_readDay_21 rfl ?_
    refine JO_iconst (pc := 22) (a := 2) dX5_readDay_22 (by decide) ?_
    refine JO_bipush (pc := 23) (a := 24) dX5_readDay_23 (by decide) ?_
    refine JO_callVi (pc := 25) [.int 2, .int 24] lk_X5_97 rfl (ci := 5) rfl shX5 (w_X5_expectNumber G d 2 24 σ1) rfl rfl (Nat.le_of_ble_eq_true rfl) dX5_readDay_25 (fun r3 => ?_)
    refine JO_putI (pc := 28) fl_X5_101 rfl (fkTown_day hq2) dX5_readDay_28 (fun σ4 => ?_)
    exact JO_retv (pc := 31) rfl dX5_readDay_31
  · refine JO_aload_n (pc := 4) dX5_readDay_4 rfl ?_
    refine JO_iconst (pc := 5) (a := 2) dX5_readDay_5 (by decide) ?_
    refine JO_callVv (pc := 6) [.int 2] lk_X5_77 rfl (ci := 5) rfl shX5 (w_X5_fail G (d + 5) 2 σ) rfl rfl (Nat.le_of_ble_eq_true rfl) dX5_readDay_6 (fun σ5 => ?_)
    exact JO_retv (pc := 9) rfl dX5_readDay_9
set_option maxHeartbeats 4000000 in
set_option maxRecDepth 100000 in
theorem w_X9_isSameWord_19 (G : JG) (d : Nat) : ∀ (n : Nat) (x1 : Int32) (x3 : Int32) (σ : Mem), JO G mX9_isSameWord d 19 [some (.ref (G.1 + off 3)), some (.int x1), none, some (.int x3)] [] σ rI (X9_isSameWord_19 n x1 x3 σ) := by
  intro n
  induction n with
  | zero =>
    intro x1 x3 σ
    exact JO_none
  | succ n ih =>
    intro x1 x3 σ
    rw [X9_isSameWord_19]
    refine JO_iload_n (pc := 19) dX9_isSameWord_19 rfl ?_
    refine JO_aload_n (pc := 20) dX9_isSameWord_20 rfl ?_
    refine JO_getI (pc := 21) fl_X9_25 rfl fkX9_end dX9_isSameWord_21 ?_
    refine JO_aload_n (pc := 24) dX9_isSameWord_24 rfl ?_
    refine JO_getI (pc := 25) fl_X9_31 rfl fkX9_start dX9_isSameWord_25 ?_
    refine JO_isub (pc := 28) dX9_isSameWord_28 ?_
    refine JO_icmp_ge (pc := 29) (tgt := 62) dX9_isSameWord_29 (by decide) ?_ ?_
    · refine JO_iconst (pc := 62) (a := 1) dX9_isSameWord_62 (by decide) ?_
      exact JO_retzc (pc := 63) (by decide) rfl dX9_isSameWord_63
    · refine JO_aload_n (pc := 32) dX9_isSameWord_32 rfl ?_
      refine JO_getM (pc := 33) fl_X9_9 rfl 1 (by decide) (by decide) fkX9_text dX9_isSameWord_33 ?_
      refine JO_aload_n (pc := 36) dX9_isSameWord_36 rfl ?_
      refine JO_getI (pc := 37) fl_X9_31 rfl fkX9_start dX9_isSameWord_37 ?_
      refine JO_iload_n (pc := 40) dX9_isSameWord_40 rfl ?_
      refine JO_iadd (pc := 41) dX9_isSameWord_41 ?_
      refine JO_bald (pc := 42) akX11_tape dX9_isSameWord_42 ?_
      refine JO_aload_n (pc := 43) dX9_isSameWord_43 rfl ?_
      refine JO_getM (pc := 44) fl_X9_9 rfl 1 (by decide) (by decide) fkX9_text dX9_isSameWord_44 ?_
      refine JO_iload_n (pc := 47) dX9_isSameWord_47 rfl ?_
      refine JO_iload_n (pc := 48) dX9_isSameWord_48 rfl ?_
      refine JO_iadd (pc := 49) dX9_isSameWord_49 ?_
      refine JO_bald (pc := 50) akX11_tape dX9_isSameWord_50 ?_
      refine JO_icmp_eq (pc := 51) (tgt := 56) dX9_isSameWord_51 (by decide) ?_ ?_
      · refine JO_inc (pc := 56) (b := 1) (L' := fun v2 => [some (.ref (G.1 + off 3)), some (.int x1), none, some (.int v2)]) dX9_isSameWord_56 rfl rfl (by decide) rfl (fun _ => rfl) (fun v2 => ?_)
        refine JO_goto (pc := 59) (tgt := 19) dX9_isSameWord_59 (by decide) ?_
        exact JO_sub (l_sub_some (l_sub_some (l_sub_none (l_sub_some (l_sub_nil))))) (ih x1 v2 σ)
      · refine JO_iconst (pc := 54) (a := 0) dX9_isSameWord_54 (by decide) ?_
        exact JO_retzc (pc := 55) (by decide) rfl dX9_isSameWord_55
set_option maxHeartbeats 4000000 in
set_option maxRecDepth 100000 in
theorem w_X9_isSameWord (G : JG) (d : Nat) (x1 : Int32) (x2 : Int32) (σ : Mem) : JS G mX9_isSameWord d [.ref (G.1 + off 3), .int x1, .int x2] σ rI (X9_isSameWord x1 x2 σ) := by
  refine JS_of 1 (by decide +kernel) (Nat.le_of_ble_eq_true rfl) (L := [some (.ref (G.1 + off 3)), some (.int x1), some (.int x2), none]) rfl ?_
  unfold X9_isSameWord
  refine JO_iload_n (pc := 0) dX9_isSameWord_0 rfl ?_
  refine JO_iload_n (pc := 1) dX9_isSameWord_1 rfl ?_
  refine JO_isub (pc := 2) dX9_isSameWord_2 ?_
  refine JO_aload_n (pc := 3) dX9_isSameWord_3 rfl ?_
  refine JO_getI (pc := 4) fl_X9_25 rfl fkX9_end dX9_isSameWord_4 ?_
  refine JO_aload_n (pc := 7) dX9_isSameWord_7 rfl ?_
  refine JO_getI (pc := 8) fl_X9_31 rfl fkX9_start dX9_isSameWord_8 ?_
  refine JO_isub (pc := 11) dX9_isSameWord_11 ?_
  refine JO_icmp_eq (pc := 12) (tgt := 17) dX9_isSameWord_12 (by decide) ?_ ?_
  · refine JO_iconst (pc := 17) (a := 0) dX9_isSameWord_17 (by decide) ?_
    refine JO_nm (fun v1 => ?_)
    refine JO_istore_n (pc := 18) (L' := [some (.ref (G.1 + off 3)), some (.int x1), some (.int x2), some (.int v1)]) dX9_isSameWord_18 rfl rfl rfl ?_
    exact JO_sub (l_sub_some (l_sub_some (l_sub_none (l_sub_some (l_sub_nil))))) (w_X9_isSameWord_19 G d fu x1 v1 σ)
  · refine JO_iconst (pc := 15) (a := 0) dX9_isSameWord_15 (by decide) ?_
    exact JO_retzc (pc := 16) (by decide) rfl dX9_isSameWord_16
set_option maxHeartbeats 4000000 in
set_option maxRecDepth 100000 in
theorem w_X5_personHere_2 (G : JG) (d : Nat) : ∀ (n : Nat) (x1 : Int32) (σ : Mem), JO G mX5_personHere (d + 1) 2 [some (.ref (G.1 + off 2)), some (.int x1)] [] σ rI (X5_personHere_2 n x1 σ) := by
  intro n
  induction n with
  | zero =>
    intro x1 σ
    exact JO_none
  | succ n ih =>
    intro x1 σ
    rw [X5_personHere_2]
    refine JO_iload_n (pc := 2) dX5_personHere_2 rfl ?_
    refine JO_aload_n (pc := 3) dX5_personHere_3 rfl ?_
    refine JO_getT (pc := 4) fl_X5_28 rfl fkX5_town dX5_personHere_4 (fun q2 hq2 => ?_)
    refine JO_getI (pc := 7) fl_X5_104 rfl (fkTown_people hq2) dX5_personHere_7 ?_
    refine JO_icmp_ge (pc := 10) (tgt := 43) dX5_personHere_10 (by decide) ?_ ?_
    · refine JO_iconst (pc := 43) (a := (-1)) dX5_personHere_43 (by decide) ?_
      exact JO_reti (pc := 44) rfl dX5_personHere_44
    · refine JO_aload_n (pc := 13) dX5_personHere_13 rfl ?_
      refine JO_getR (pc := 14) fl_X5_12 rfl fkX5_tokens dX5_personHere_14 ?_
      refine JO_aload_n (pc := 17) dX5_personHere_17 rfl ?_
      refine JO_getR (pc := 18) fl_X5_18 rfl fkX5_nameStart dX5_personHere_18 ?_
      refine JO_iload_n (pc := 21) dX5_personHere_21 rfl ?_
      refine JO_iald (pc := 22) akX5_nameStart dX5_personHere_22 ?_
      refine JO_aload_n (pc := 23) dX5_personHere_23 rfl ?_
      refine JO_getR (pc := 24) fl_X5_22 rfl fkX5_nameEnd dX5_personHere_24 ?_
      refine JO_iload_n (pc := 27) dX5_personHere_27 rfl ?_
      refine JO_iald (pc := 28) akX5_nameEnd dX5_personHere_28 ?_
      refine JO_callVi (pc := 29) [.int (σ.1 5 x1.toNatClampNeg), .int (σ.1 6 x1.toNatClampNeg)] lk_X5_141 rfl (ci := 9) rfl shX9 (w_X9_isSameWord G d (σ.1 5 x1.toNatClampNeg) (σ.1 6 x1.toNatClampNeg) σ) rfl rfl (Nat.le_of_ble_eq_true rfl) dX5_personHere_29 (fun r3 => ?_)
      refine JO_if_eq (pc := 32) (tgt := 37) dX5_personHere_32 (by decide) ?_ ?_
      · refine JO_inc (pc := 37) (b := 1) (L' := fun v4 => [some (.ref (G.1 + off 2)), some (.int v4)]) dX5_personHere_37 rfl rfl (by decide) rfl (fun _ => rfl) (fun v4 => ?_)
        refine JO_goto (pc := 40) (tgt := 2) dX5_personHere_40 (by decide) ?_
        exact JO_sub (l_sub_some (l_sub_some (l_sub_nil))) (ih v4 r3.2)
      · refine JO_iload_n (pc := 35) dX5_personHere_35 rfl ?_
        exact JO_reti (pc := 36) rfl dX5_personHere_36
set_option maxHeartbeats 4000000 in
set_option maxRecDepth 100000 in
theorem w_X5_personHere (G : JG) (d : Nat) (σ : Mem) : JS G mX5_personHere (d + 1) [.ref (G.1 + off 2)] σ rI (X5_personHere σ) := by
  refine JS_of 1 (by decide +kernel) (Nat.le_of_ble_eq_true rfl) (L := [some (.ref (G.1 + off 2)), none]) rfl ?_
  unfold X5_personHere
  refine JO_iconst (pc := 0) (a := 0) dX5_personHere_0 (by decide) ?_
  refine JO_nm (fun v1 => ?_)
  refine JO_istore_n (pc := 1) (L' := [some (.ref (G.1 + off 2)), some (.int v1)]) dX5_personHere_1 rfl rfl rfl ?_
  exact JO_sub (l_sub_some (l_sub_some (l_sub_nil))) (w_X5_personHere_2 G d fu v1 σ)
set_option maxHeartbeats 4000000 in
set_option maxRecDepth 100000 in
theorem w_X5_readNewName (G : JG) (d : Nat) (x1 : Int32) (σ : Mem) : JS G mX5_readNewName (d + 6) [.ref (G.1 + off 2), .int x1] σ rV (X5_readNewName x1 σ) := by
  refine JS_of 0 (by decide +kernel) (Nat.le_of_ble_eq_true rfl) (L := [some (.ref (G.1 + off 2)), some (.int x1)]) rfl ?_
  unfold X5_readNewName
  refine JO_aload_n (pc := 0) dX5_readNewName_0 rfl ?_
  refine JO_iconst (pc := 1) (a := 3) dX5_readNewName_1 (by decide) ?_
  refine JO_callVi (pc := 2) [.int 3] lk_X5_87 rfl (ci := 5) rfl shX5 (w_X5_isAt G (d + 4) 3 σ) rfl rfl (Nat.le_of_ble_eq_true rfl) dX5_readNewName_2 (fun r1 => ?_)
  refine JO_if_ne (pc := 5) (tgt := 16) dX5_readNewName_5 (by decide) ?_ ?_
  · refine JO_aload_n (pc := 16) dX5_readNewName_16 rfl ?_
    refine JO_callVi (pc := 17) [] lk_X5_134 rfl (ci := 5) rfl shX5 (w_X5_personHere G (d + 4)  r1.2) rfl rfl (Nat.le_of_ble_eq_true rfl) dX5_readNewName_17 (fun r2 => ?_)
    refine JO_iconst (pc := 20) (a := (-1)) dX5_readNewName_20 (by decide) ?_
    refine JO_icmp_eq (pc := 21) (tgt := 32) dX5_readNewName_21 (by decide) ?_ ?_
    · refine JO_aload_n (pc := 32) dX5_readNewName_32 rfl ?_
      refine JO_getR (pc := 33) fl_X5_18 rfl fkX5_nameStart dX5_readNewName_33 ?_
      refine JO_iload_n (pc := 36) dX5_readNewName_36 rfl ?_
      refine JO_aload_n (pc := 37) dX5_readNewName_37 rfl ?_
      refine JO_getR (pc := 38) fl_X5_12 rfl fkX5_tokens dX5_readNewName_38 ?_
      refine JO_getI (pc := 41) fl_X5_84 rfl fkX9_start dX5_readNewName_41 ?_
      refine JO_iast (pc := 44) akX5_nameStart dX5_readNewName_44 (fun σ3 => ?_)
      refine JO_aload_n (pc := 45) dX5_readNewName_45 rfl ?_
      refine JO_getR (pc := 46) fl_X5_22 rfl fkX5_nameEnd dX5_readNewName_46 ?_
      refine JO_iload_n (pc := 49) dX5_readNewName_49 rfl ?_
      refine JO_aload_n (pc := 50) dX5_readNewName_50 rfl ?_
      refine JO_getR (pc := 51) fl_X5_12 rfl fkX5_tokens dX5_readNewName_51 ?_
      refine JO_getI (pc := 54) fl_X5_138 rfl fkX9_end dX5_readNewName_54 ?_
      refine JO_iast (pc := 57) akX5_nameEnd dX5_readNewName_57 (fun σ4 => ?_)
      refine JO_aload_n (pc := 58) dX5_readNewName_58 rfl ?_
      refine JO_getR (pc := 59) fl_X5_12 rfl fkX5_tokens dX5_readNewName_59 ?_
      refine JO_callVv (pc := 62) [] lk_X5_91 rfl (ci := 9) rfl shX9 (w_X9_next G d  σ4) rfl rfl (Nat.le_of_ble_eq_true rfl) dX5_readNewName_62 (fun σ5 => ?_)
      exact JO_retv (pc := 65) rfl dX5_readNewName_65
    · refine JO_aload_n (pc := 24) dX5_readNewName_24 rfl ?_
      refine JO_iconst (pc := 25) (a := 3) dX5_readNewName_25 (by decide) ?_
      refine JO_callVv (pc := 26) [.int 3] lk_X5_77 rfl (ci := 5) rfl shX5 (w_X5_fail G (d + 4) 3 r2.2) rfl rfl (Nat.le_of_ble_eq_true rfl) dX5_readNewName_26 (fun σ6 => ?_)
      refine JO_goto (pc := 29) (tgt := 65) dX5_readNewName_29 (by decide) ?_
      exact JO_retv (pc := 65) rfl dX5_readNewName_65
  · refine JO_aload_n (pc := 8) dX5_readNewName_8 rfl ?_
    refine JO_iconst (pc := 9) (a := 2) dX5_readNewName_9 (by decide) ?_
    refine JO_callVv (pc := 10) [.int 2] lk_X5_77 rfl (ci := 5) rfl shX5 (w_X5_fail G (d + 4) 2 r1.2) rfl rfl (Nat.le_of_ble_eq_true rfl) dX5_readNewName_10 (fun σ7 => ?_)
    refine JO_goto (pc := 13) (tgt := 65) dX5_readNewName_13 (by decide) ?_
    exact JO_retv (pc := 65) rfl dX5_readNewName_65
set_option maxHeartbeats 4000000 in
set_option maxRecDepth 100000 in
theorem w_X5_expect (G : JG) (d : Nat) (x1 : Int32) (σ : Mem) : JS G mX5_expect (d + 6) [.ref (G.1 + off 2), .int x1] σ rV (X5_expect x1 σ) := by
  refine JS_of 0 (by decide +kernel) (Nat.le_of_ble_eq_true rfl) (L := [some (.ref (G.1 + off 2)), some (.int x1)]) rfl ?_
  unfold X5_expect
  refine JO_aload_n (pc := 0) dX5_expect_0 rfl ?_
  refine JO_iload_n (pc := 1) dX5_expect_1 rfl ?_
  refine JO_callVi (pc := 2) [.int x1] lk_X5_87 rfl (ci := 5) rfl shX5 (w_X5_isAt G (d + 4) x1 σ) rfl rfl (Nat.le_of_ble_eq_true rfl) dX5_expect_2 (fun r1 => ?_)
  refine JO_if_eq (pc := 5) (tgt := 18) dX5_expect_5 (by decide) ?_ ?_
  · refine JO_aload_n (pc := 18) dX5_expect_18 rfl ?_
    refine JO_iconst (pc := 19) (a := 2) dX5_expect_19 (by decide) ?_
    refine JO_callVv (pc := 20) [.int 2] lk_X5_77 rfl (ci := 5) rfl shX5 (w_X5_fail G (d + 4) 2 r1.2) rfl rfl (Nat.le_of_ble_eq_true rfl) dX5_expect_20 (fun σ2 => ?_)
    exact JO_retv (pc := 23) rfl dX5_expect_23
  · refine JO_aload_n (pc := 8) dX5_expect_8 rfl ?_
    refine JO_getR (pc := 9) fl_X5_12 rfl fkX5_tokens dX5_expect_9 ?_
    refine JO_callVv (pc := 12) [] lk_X5_91 rfl (ci := 9) rfl shX9 (w_X9_next G d  r1.2) rfl rfl (Nat.le_of_ble_eq_true rfl) dX5_expect_12 (fun σ3 => ?_)
    refine JO_goto (pc := 15) (tgt := 23) dX5_expect_15 (by decide) ?_
    exact JO_retv (pc := 23) rfl dX5_expect_23
set_option maxHeartbeats 4000000 in
set_option maxRecDepth 100000 in
theorem w_X5_numberBehind (G : JG) (d : Nat) (x1 : Int32) (x2 : Int32) (σ : Mem) : JS G mX5_numberBehind (d + 7) [.ref (G.1 + off 2), .int x1, .int x2] σ rI (X5_numberBehind x1 x2 σ) := by
  refine JS_of 0 (by decide +kernel) (Nat.le_of_ble_eq_true rfl) (L := [some (.ref (G.1 + off 2)), some (.int x1), some (.int x2)]) rfl ?_
  unfold X5_numberBehind
  refine JO_aload_n (pc := 0) dX5_numberBehind_0 rfl ?_
  refine JO_iload_n (pc := 1) dX5_numberBehind_1 rfl ?_
  refine JO_callVi (pc := 2) [.int x1] lk_X5_87 rfl (ci := 5) rfl shX5 (w_X5_isAt G (d + 5) x1 σ) rfl rfl (Nat.le_of_ble_eq_true rfl) dX5_numberBehind_2 (fun r1 => ?_)
  refine JO_if_ne (pc := 5) (tgt := 10) dX5_numberBehind_5 (by decide) ?_ ?_
  · refine JO_aload_n (pc := 10) dX5_numberBehind_10 rfl ?_
    refine JO_getR (pc := 11) fl_X5_12 rfl fkX5_tokens dX5_numberBehind_11 ?_
    refine JO_callVv (pc := 14) [] lk_X5_91 rfl (ci := 9) rfl shX9 (w_X9_next G (d + 1)  r1.2) rfl rfl (Nat.le_of_ble_eq_true rfl) dX5_numberBehind_14 (fun σ2 => ?_)
    refine JO_aload_n (pc := 17) dX5_numberBehind_17 rfl ?_
    refine JO_iconst (pc := 18) (a := 0) dX5_numberBehind_18 (by decide) ?_
    refine JO_iload_n (pc := 19) dX5_numberBehind_19 rfl ?_
    refine JO_callVi (pc := 20) [.int 0, .int x2] lk_X5_97 rfl (ci := 5) rfl shX5 (w_X5_expectNumber G d 0 x2 σ2) rfl rfl (Nat.le_of_ble_eq_true rfl) dX5_numberBehind_20 (fun r3 => ?_)
    exact JO_reti (pc := 23) rfl dX5_numberBehind_23
  · refine JO_iconst (pc := 8) (a := 0) dX5_numberBehind_8 (by decide) ?_
    exact JO_reti (pc := 9) rfl dX5_numberBehind_9
set_option maxHeartbeats 4000000 in
set_option maxRecDepth 100000 in
theorem w_X5_readPerson (G : JG) (d : Nat) (σ : Mem) : JS G mX5_readPerson (d + 8) [.ref (G.1 + off 2)] σ rV (X5_readPerson σ) := by
  refine JS_of 2 (by decide +kernel) (Nat.le_of_ble_eq_true rfl) (L := [some (.ref (G.1 + off 2)), none, none]) rfl ?_
  unfold X5_readPerson
  refine JO_aload_n (pc := 0) dX5_readPerson_0 rfl ?_
  refine JO_getT (pc := 1) fl_X5_28 rfl fkX5_town dX5_readPerson_1 (fun q1 hq1 => ?_)
  refine JO_getI (pc := 4) fl_X5_104 rfl (fkTown_people hq1) dX5_readPerson_4 ?_
  refine JO_nm (fun v2 => ?_)
  refine JO_istore_n (pc := 7) (L' := [some (.ref (G.1 + off 2)), some (.int v2), none]) dX5_readPerson_7 rfl rfl rfl ?_
  refine JO_iload_n (pc := 8) dX5_readPerson_8 rfl ?_
  refine JO_bipush (pc := 9) (a := 6) dX5_readPerson_9 (by decide) ?_
  refine JO_icmp_lt (pc := 11) (tgt := 20) dX5_readPerson_11 (by decide) ?_ ?_
  · refine JO_aload_n (pc := 20) dX5_readPerson_20 rfl ?_
    refine JO_getR (pc := 21) fl_X5_12 rfl fkX5_tokens dX5_readPerson_21 ?_
    refine JO_callVv (pc := 24) [] lk_X5_91 rfl (ci := 9) rfl shX9 (w_X9_next G (d + 2)  σ) rfl rfl (Nat.le_of_ble_eq_true rfl) dX5_readPerson_24 (fun σ3 => ?_)
    refine JO_aload_n (pc := 27) dX5_readPerson_27 rfl ?_
    refine JO_iload_n (pc := 28) dX5_readPerson_28 rfl ?_
    refine JO_callVv (pc := 29) [.int v2] lk_X5_107 rfl (ci := 5) rfl shX5 (w_X5_readNewName G (d + 1) v2 σ3) rfl rfl (Nat.le_of_ble_eq_true rfl) dX5_readPerson_29 (fun σ4 => ?_)
    refine JO_aload_n (pc := 32) dX5_readPerson_32 rfl ?_
    refine JO_bipush (pc := 33) (a := 102) dX5_readPerson_33 (by decide) ?_
    refine JO_callVv (pc := 35) [.int 102] lk_X5_81 rfl (ci := 5) rfl shX5 (w_X5_expect G (d + 1) 102 σ4) rfl rfl (Nat.le_of_ble_eq_true rfl) dX5_readPerson_35 (fun σ5 => ?_)
    refine JO_aload_n (pc := 38) dX5_readPerson_38 rfl ?_
    refine JO_getT (pc := 39) fl_X5_28 rfl fkX5_town dX5_readPerson_39 (fun q6 hq6 => ?_)
    refine JO_getR (pc := 42) fl_X5_110 rfl (fkTown_door hq6) dX5_readPerson_42 ?_
    refine JO_iload_n (pc := 45) dX5_readPerson_45 rfl ?_
    refine JO_aload_n (pc := 46) dX5_readPerson_46 rfl ?_
    refine JO_iconst (pc := 47) (a := 0) dX5_readPerson_47 (by decide) ?_
    refine JO_bipush (pc := 48) (a := 20) dX5_readPerson_48 (by decide) ?_
    refine JO_callVi (pc := 50) [.int 0, .int 20] lk_X5_97 rfl (ci := 5) rfl shX5 (w_X5_expectNumber G (d + 1) 0 20 σ5) rfl rfl (Nat.le_of_ble_eq_true rfl) dX5_readPerson_50 (fun r7 => ?_)
    refine JO_iast (pc := 53) (akTown_door hq6) dX5_readPerson_53 (fun σ8 => ?_)
    refine JO_aload_n (pc := 54) dX5_readPerson_54 rfl ?_
    refine JO_bipush (pc := 55) (a := 103) dX5_readPerson_55 (by decide) ?_
    refine JO_callVv (pc := 57) [.int 103] lk_X5_81 rfl (ci := 5) rfl shX5 (w_X5_expect G (d + 1) 103 σ8) rfl rfl (Nat.le_of_ble_eq_true rfl) dX5_readPerson_57 (fun σ9 => ?_)
    refine JO_aload_n (pc := 60) dX5_readPerson_60 rfl ?_
    refine JO_iconst (pc := 61) (a := 0) dX5_readPerson_61 (by decide) ?_
    refine JO_aload_n (pc := 62) dX5_readPerson_62 rfl ?_
    refine JO_getT (pc := 63) fl_X5_28 rfl fkX5_town dX5_readPerson_63 (fun q10 hq10 => ?_)
    refine JO_getI (pc := 66) fl_X5_101 rfl (fkTown_day hq10) dX5_readPerson_66 ?_
    refine JO_iconst (pc := 69) (a := 1) dX5_readPerson_69 (by decide) ?_
    refine JO_isub (pc := 70) dX5_readPerson_70 ?_
    refine JO_callVi (pc := 71) [.int 0, .int ((σ9.1 q10 11) - 1)] lk_X5_97 rfl (ci := 5) rfl shX5 (w_X5_expectNumber G (d + 1) 0 ((σ9.1 q10 11) - 1) σ9) rfl rfl (Nat.le_of_ble_eq_true rfl) dX5_readPerson_71 (fun r11 => ?_)
    refine JO_nm (fun v12 => ?_)
    refine JO_istore_n (pc := 74) (L' := [some (.ref (G.1 + off 2)), some (.int v2), some (.int v12)]) dX5_readPerson_74 rfl rfl rfl ?_
    refine JO_aload_n (pc := 75) dX5_readPerson_75 rfl ?_
    refine JO_bipush (pc := 76) (a := 104) dX5_readPerson_76 (by decide) ?_
    refine JO_callVv (pc := 78) [.int 104] lk_X5_81 rfl (ci := 5) rfl shX5 (w_X5_expect G (d + 1) 104 r11.2) rfl rfl (Nat.le_of_ble_eq_true rfl) dX5_readPerson_78 (fun σ13 => ?_)
    refine JO_aload_n (pc := 81) dX5_readPerson_81 rfl ?_
    refine JO_getT (pc := 82) fl_X5_28 rfl fkX5_town dX5_readPerson_82 (fun q14 hq14 => ?_)
    refine JO_getR (pc := 85) fl_X5_113 rfl (fkTown_from hq14) dX5_readPerson_85 ?_
    refine JO_iload_n (pc := 88) dX5_readPerson_88 rfl ?_
    refine JO_iload_n (pc := 89) dX5_readPerson_89 rfl ?_
    refine JO_iast (pc := 90) (akTown_from hq14) dX5_readPerson_90 (fun σ15 => ?_)
    refine JO_aload_n (pc := 91) dX5_readPerson_91 rfl ?_
    refine JO_getT (pc := 92) fl_X5_28 rfl fkX5_town dX5_readPerson_92 (fun q16 hq16 => ?_)
    refine JO_getR (pc := 95) fl_X5_116 rfl (fkTown_to hq16) dX5_readPerson_95 ?_
    refine JO_iload_n (pc := 98) dX5_readPerson_98 rfl ?_
    refine JO_aload_n (pc := 99) dX5_readPerson_99 rfl ?_
    refine JO_iload_n (pc := 100) dX5_readPerson_100 rfl ?_
    refine JO_iconst (pc := 101) (a := 1) dX5_readPerson_101 (by decide) ?_
    refine JO_iadd (pc := 102) dX5_readPerson_102 ?_
    refine JO_aload_n (pc := 103) dX5_readPerson_103 rfl ?_
    refine JO_getT (pc := 104) fl_X5_28 rfl fkX5_town dX5_readPerson_104 (fun q17 hq17 => ?_)
    refine JO_getI (pc := 107) fl_X5_101 rfl (fkTown_day hq17) dX5_readPerson_107 ?_
    refine JO_callVi (pc := 110) [.int (v12 + 1), .int (σ15.1 q17 11)] lk_X5_97 rfl (ci := 5) rfl shX5 (w_X5_expectNumber G (d + 1) (v12 + 1) (σ15.1 q17 11) σ15) rfl rfl (Nat.le_of_ble_eq_true rfl) dX5_readPerson_110 (fun r18 => ?_)
    refine JO_iast (pc := 113) (akTown_to hq16) dX5_readPerson_113 (fun σ19 => ?_)
    refine JO_aload_n (pc := 114) dX5_readPerson_114 rfl ?_
    refine JO_getT (pc := 115) fl_X5_28 rfl fkX5_town dX5_readPerson_115 (fun q20 hq20 => ?_)
    refine JO_getR (pc := 118) fl_X5_119 rfl (fkTown_chairs hq20) dX5_readPerson_118 ?_
    refine JO_iload_n (pc := 121) dX5_readPerson_121 rfl ?_
    refine JO_aload_n (pc := 122) dX5_readPerson_122 rfl ?_
    refine JO_bipush (pc := 123) (a := 105) dX5_readPerson_123 (by decide) ?_
    refine JO_bipush (pc := 125) (a := 9) dX5_readPerson_125 (by decide) ?_
    refine JO_callVi (pc := 127) [.int 105, .int 9] lk_X5_122 rfl (ci := 5) rfl shX5 (w_X5_numberBehind G d 105 9 σ19) rfl rfl (Nat.le_of_ble_eq_true rfl) dX5_readPerson_127 (fun r21 => ?_)
    refine JO_iast (pc := 130) (akTown_chairs hq20) dX5_readPerson_130 (fun σ22 => ?_)
    refine JO_aload_n (pc := 131) dX5_readPerson_131 rfl ?_
    refine JO_getT (pc := 132) fl_X5_28 rfl fkX5_town dX5_readPerson_132 (fun q23 hq23 => ?_)
    refine JO_getR (pc := 135) fl_X5_125 rfl (fkTown_rest hq23) dX5_readPerson_135 ?_
    refine JO_iload_n (pc := 138) dX5_readPerson_138 rfl ?_
    refine JO_aload_n (pc := 139) dX5_readPerson_139 rfl ?_
    refine JO_bipush (pc := 140) (a := 106) dX5_readPerson_140 (by decide) ?_
    refine JO_aload_n (pc := 142) dX5_readPerson_142 rfl ?_
    refine JO_getT (pc := 143) fl_X5_28 rfl fkX5_town dX5_readPerson_143 (fun q24 hq24 => ?_)
    refine JO_getI (pc := 146) fl_X5_101 rfl (fkTown_day hq24) dX5_readPerson_146 ?_
    refine JO_iconst (pc := 149) (a := 1) dX5_readPerson_149 (by decide) ?_
    refine JO_isub (pc := 150) dX5_readPerson_150 ?_
    refine JO_callVi (pc := 151) [.int 106, .int ((σ22.1 q24 11) - 1)] lk_X5_122 rfl (ci := 5) rfl shX5 (w_X5_numberBehind G d 106 ((σ22.1 q24 11) - 1) σ22) rfl rfl (Nat.le_of_ble_eq_true rfl) dX5_readPerson_151 (fun r25 => ?_)
    refine JO_iast (pc := 154) (akTown_rest hq23) dX5_readPerson_154 (fun σ26 => ?_)
    refine JO_aload_n (pc := 155) dX5_readPerson_155 rfl ?_
    refine JO_getT (pc := 156) fl_X5_28 rfl fkX5_town dX5_readPerson_156 (fun q27 hq27 => ?_)
    refine JO_getR (pc := 159) fl_X5_128 rfl (fkTown_price hq27) dX5_readPerson_159 ?_
    refine JO_iload_n (pc := 162) dX5_readPerson_162 rfl ?_
    refine JO_aload_n (pc := 163) dX5_readPerson_163 rfl ?_
    refine JO_bipush (pc := 164) (a := 107) dX5_readPerson_164 (by decide) ?_
    refine JO_bipush (pc := 166) (a := 99) dX5_readPerson_166 (by decide) ?_
    refine JO_callVi (pc := 168) [.int 107, .int 99] lk_X5_122 rfl (ci := 5) rfl shX5 (w_X5_numberBehind G d 107 99 σ26) rfl rfl (Nat.le_of_ble_eq_true rfl) dX5_readPerson_168 (fun r28 => ?_)
    refine JO_iast (pc := 171) (akTown_price hq27) dX5_readPerson_171 (fun σ29 => ?_)
    refine JO_aload_n (pc := 172) dX5_readPerson_172 rfl ?_
    refine JO_getT (pc := 173) fl_X5_28 rfl fkX5_town dX5_readPerson_173 (fun q30 hq30 => ?_)
    refine JO_getR (pc := 176) fl_X5_131 rfl (fkTown_coin hq30) dX5_readPerson_176 ?_
    refine JO_iload_n (pc := 179) dX5_readPerson_179 rfl ?_
    refine JO_aload_n (pc := 180) dX5_readPerson_180 rfl ?_
    refine JO_bipush (pc := 181) (a := 108) dX5_readPerson_181 (by decide) ?_
    refine JO_sipush (pc := 183) (a := 999) dX5_readPerson_183 (by decide) ?_
    refine JO_callVi (pc := 186) [.int 108, .int 999] lk_X5_122 rfl (ci := 5) rfl shX5 (w_X5_numberBehind G d 108 999 σ29) rfl rfl (Nat.le_of_ble_eq_true rfl) dX5_readPerson_186 (fun r31 => ?_)
    refine JO_iast (pc := 189) (akTown_coin hq30) dX5_readPerson_189 (fun σ32 => ?_)
    refine JO_aload_n (pc := 190) dX5_readPerson_190 rfl ?_
    refine JO_getT (pc := 191) fl_X5_28 rfl fkX5_town dX5_readPerson_191 (fun q33 hq33 => ?_)
    refine JO_dup (pc := 194) dX5_readPerson_194 rfl ?_
    refine JO_getI (pc := 195) fl_X5_104 rfl (fkTown_people hq33) dX5_readPerson_195 ?_
    refine JO_iconst (pc := 198) (a := 1) dX5_readPerson_198 (by decide) ?_
    refine JO_iadd (pc := 199) dX5_readPerson_199 ?_
    refine JO_putI (pc := 200) fl_X5_104 rfl (fkTown_people hq33) dX5_readPerson_200 (fun σ34 => ?_)
    exact JO_retv (pc := 203) rfl dX5_readPerson_203
  · refine JO_aload_n (pc := 14) dX5_readPerson_14 rfl ?_
    refine JO_iconst (pc := 15) (a := 2) dX5_readPerson_15 (by decide) ?_
    refine JO_callVv (pc := 16) [.int 2] lk_X5_77 rfl (ci := 5) rfl shX5 (w_X5_fail G (d + 6) 2 σ) rfl rfl (Nat.le_of_ble_eq_true rfl) dX5_readPerson_16 (fun σ35 => ?_)
    exact JO_retv (pc := 19) rfl dX5_readPerson_19
set_option maxHeartbeats 4000000 in
set_option maxRecDepth 100000 in
theorem w_X5_knownPersonHere (G : JG) (d : Nat) (σ : Mem) : JS G mX5_knownPersonHere (d + 2) [.ref (G.1 + off 2)] σ rI (X5_knownPersonHere σ) := by
  refine JS_of 1 (by decide +kernel) (Nat.le_of_ble_eq_true rfl) (L := [some (.ref (G.1 + off 2)), none]) rfl ?_
  unfold X5_knownPersonHere
  refine JO_aload_n (pc := 0) dX5_knownPersonHere_0 rfl ?_
  refine JO_iconst (pc := 1) (a := 3) dX5_knownPersonHere_1 (by decide) ?_
  refine JO_callVi (pc := 2) [.int 3] lk_X5_87 rfl (ci := 5) rfl shX5 (w_X5_isAt G d 3 σ) rfl rfl (Nat.le_of_ble_eq_true rfl) dX5_knownPersonHere_2 (fun r1 => ?_)
  refine JO_if_ne (pc := 5) (tgt := 15) dX5_knownPersonHere_5 (by decide) ?_ ?_
  · refine JO_aload_n (pc := 15) dX5_knownPersonHere_15 rfl ?_
    refine JO_callVi (pc := 16) [] lk_X5_134 rfl (ci := 5) rfl shX5 (w_X5_personHere G d  r1.2) rfl rfl (Nat.le_of_ble_eq_true rfl) dX5_knownPersonHere_16 (fun r2 => ?_)
    refine JO_nm (fun v3 => ?_)
    refine JO_istore_n (pc := 19) (L' := [some (.ref (G.1 + off 2)), some (.int v3)]) dX5_knownPersonHere_19 rfl rfl rfl ?_
    refine JO_iload_n (pc := 20) dX5_knownPersonHere_20 rfl ?_
    refine JO_iconst (pc := 21) (a := (-1)) dX5_knownPersonHere_21 (by decide) ?_
    refine JO_icmp_ne (pc := 22) (tgt := 30) dX5_knownPersonHere_22 (by decide) ?_ ?_
    · refine JO_iload_n (pc := 30) dX5_knownPersonHere_30 rfl ?_
      exact JO_reti (pc := 31) rfl dX5_knownPersonHere_31
    · refine JO_aload_n (pc := 25) dX5_knownPersonHere_25 rfl ?_
      refine JO_iconst (pc := 26) (a := 5) dX5_knownPersonHere_26 (by decide) ?_
      refine JO_callVv (pc := 27) [.int 5] lk_X5_77 rfl (ci := 5) rfl shX5 (w_X5_fail G d 5 r2.2) rfl rfl (Nat.le_of_ble_eq_true rfl) dX5_knownPersonHere_27 (fun σ4 => ?_)
      refine JO_iload_n (pc := 30) dX5_knownPersonHere_30 rfl ?_
      exact JO_reti (pc := 31) rfl dX5_knownPersonHere_31
  · refine JO_aload_n (pc := 8) dX5_knownPersonHere_8 rfl ?_
    refine JO_iconst (pc := 9) (a := 2) dX5_knownPersonHere_9 (by decide) ?_
    refine JO_callVv (pc := 10) [.int 2] lk_X5_77 rfl (ci := 5) rfl shX5 (w_X5_fail G d 2 r1.2) rfl rfl (Nat.le_of_ble_eq_true rfl) dX5_knownPersonHere_10 (fun σ5 => ?_)
    refine JO_iconst (pc := 13) (a := (-1)) dX5_knownPersonHere_13 (by decide) ?_
    exact JO_reti (pc := 14) rfl dX5_knownPersonHere_14
set_option maxHeartbeats 4000000 in
set_option maxRecDepth 100000 in
theorem w_X5_readDebt_78 (G : JG) (d : Nat) : ∀ (σ : Mem), JO G mX5_readDebt (d + 7) 78 [some (.ref (G.1 + off 2)), none, none] [] σ rV (X5_readDebt_78 σ) := by
  intro σ
  unfold X5_readDebt_78
  refine JO_aload_n (pc := 78) dX5_readDebt_78 rfl ?_
  refine JO_iconst (pc := 79) (a := 3) dX5_readDebt_79 (by decide) ?_
  refine JO_callVv (pc := 80) [.int 3] lk_X5_77 rfl (ci := 5) rfl shX5 (w_X5_fail G (d + 5) 3 σ) rfl rfl (Nat.le_of_ble_eq_true rfl) dX5_readDebt_80 (fun σ19 => ?_)
  exact JO_retv (pc := 83) rfl dX5_readDebt_83
set_option maxHeartbeats 4000000 in
set_option maxRecDepth 100000 in
theorem w_X5_readDebt (G : JG) (d : Nat) (σ : Mem) : JS G mX5_readDebt (d + 7) [.ref (G.1 + off 2)] σ rV (X5_readDebt σ) := by
  refine JS_of 2 (by decide +kernel) (Nat.le_of_ble_eq_true rfl) (L := [some (.ref (G.1 + off 2)), none, none]) rfl ?_
  unfold X5_readDebt
  refine JO_aload_n (pc := 0) dX5_readDebt_0 rfl ?_
  refine JO_getT (pc := 1) fl_X5_28 rfl fkX5_town dX5_readDebt_1 (fun q1 hq1 => ?_)
  refine JO_getI (pc := 4) fl_X5_145 rfl (fkTown_debts hq1) dX5_readDebt_4 ?_
  refine JO_bipush (pc := 7) (a := 20) dX5_readDebt_7 (by decide) ?_
  refine JO_icmp_lt (pc := 9) (tgt := 18) dX5_readDebt_9 (by decide) ?_ ?_
  · refine JO_aload_n (pc := 18) dX5_readDebt_18 rfl ?_
    refine JO_getR (pc := 19) fl_X5_12 rfl fkX5_tokens dX5_readDebt_19 ?_
    refine JO_callVv (pc := 22) [] lk_X5_91 rfl (ci := 9) rfl shX9 (w_X9_next G (d + 1)  σ) rfl rfl (Nat.le_of_ble_eq_true rfl) dX5_readDebt_22 (fun σ2 => ?_)
    refine JO_aload_n (pc := 25) dX5_readDebt_25 rfl ?_
    refine JO_callVi (pc := 26) [] lk_X5_148 rfl (ci := 5) rfl shX5 (w_X5_knownPersonHere G (d + 4)  σ2) rfl rfl (Nat.le_of_ble_eq_true rfl) dX5_readDebt_26 (fun r3 => ?_)
    refine JO_nm (fun v4 => ?_)
    refine JO_istore_n (pc := 29) (L' := [some (.ref (G.1 + off 2)), some (.int v4), none]) dX5_readDebt_29 rfl rfl rfl ?_
    refine JO_aload_n (pc := 30) dX5_readDebt_30 rfl ?_
    refine JO_iconst (pc := 31) (a := 3) dX5_readDebt_31 (by decide) ?_
    refine JO_callVv (pc := 32) [.int 3] lk_X5_81 rfl (ci := 5) rfl shX5 (w_X5_expect G d 3 r3.2) rfl rfl (Nat.le_of_ble_eq_true rfl) dX5_readDebt_32 (fun σ5 => ?_)
    refine JO_aload_n (pc := 35) dX5_readDebt_35 rfl ?_
    refine JO_bipush (pc := 36) (a := 104) dX5_readDebt_36 (by decide) ?_
    refine JO_callVv (pc := 38) [.int 104] lk_X5_81 rfl (ci := 5) rfl shX5 (w_X5_expect G d 104 σ5) rfl rfl (Nat.le_of_ble_eq_true rfl) dX5_readDebt_38 (fun σ6 => ?_)
    refine JO_aload_n (pc := 41) dX5_readDebt_41 rfl ?_
    refine JO_callVi (pc := 42) [] lk_X5_148 rfl (ci := 5) rfl shX5 (w_X5_knownPersonHere G (d + 4)  σ6) rfl rfl (Nat.le_of_ble_eq_true rfl) dX5_readDebt_42 (fun r7 => ?_)
    refine JO_nm (fun v8 => ?_)
    refine JO_istore_n (pc := 45) (L' := [some (.ref (G.1 + off 2)), some (.int v4), some (.int v8)]) dX5_readDebt_45 rfl rfl rfl ?_
    refine JO_iload_n (pc := 46) dX5_readDebt_46 rfl ?_
    refine JO_iconst (pc := 47) (a := (-1)) dX5_readDebt_47 (by decide) ?_
    refine JO_icmp_eq (pc := 48) (tgt := 56) dX5_readDebt_48 (by decide) ?_ ?_
    · exact JO_retv (pc := 56) rfl dX5_readDebt_56
    · refine JO_iload_n (pc := 51) dX5_readDebt_51 rfl ?_
      refine JO_iconst (pc := 52) (a := (-1)) dX5_readDebt_52 (by decide) ?_
      refine JO_icmp_ne (pc := 53) (tgt := 57) dX5_readDebt_53 (by decide) ?_ ?_
      · refine JO_iload_n (pc := 57) dX5_readDebt_57 rfl ?_
        refine JO_iload_n (pc := 58) dX5_readDebt_58 rfl ?_
        refine JO_icmp_eq (pc := 59) (tgt := 78) dX5_readDebt_59 (by decide) ?_ ?_
        · exact JO_sub (l_sub_some (l_sub_none (l_sub_none (l_sub_nil)))) (w_X5_readDebt_78 G d  r7.2)
        · refine JO_aload_n (pc := 62) dX5_readDebt_62 rfl ?_
          refine JO_getT (pc := 63) fl_X5_28 rfl fkX5_town dX5_readDebt_63 (fun q9 hq9 => ?_)
          refine JO_getR (pc := 66) fl_X5_151 rfl (fkTown_debt hq9) dX5_readDebt_66 ?_
          refine JO_iload_n (pc := 69) dX5_readDebt_69 rfl ?_
          refine JO_iload_n (pc := 70) dX5_readDebt_70 rfl ?_
          refine JO_callSNi (pc := 71) [.int v4, .int v8] lk_X5_154 rfl (w_X11_cell G (d + 6) v4 v8 r7.2) rfl rfl (Nat.le_of_ble_eq_true rfl) dX5_readDebt_71 (fun r10 => ?_)
          refine JO_iald (pc := 74) (akTown_debt hq9) dX5_readDebt_74 ?_
          refine JO_if_eq (pc := 75) (tgt := 84) dX5_readDebt_75 (by decide) ?_ ?_
          · refine JO_aload_n (pc := 84) dX5_readDebt_84 rfl ?_
            refine JO_iconst (pc := 85) (a := 3) dX5_readDebt_85 (by decide) ?_
            refine JO_callVv (pc := 86) [.int 3] lk_X5_81 rfl (ci := 5) rfl shX5 (w_X5_expect G d 3 r10.2) rfl rfl (Nat.le_of_ble_eq_true rfl) dX5_readDebt_86 (fun σ11 => ?_)
            refine JO_aload_n (pc := 89) dX5_readDebt_89 rfl ?_
            refine JO_getT (pc := 90) fl_X5_28 rfl fkX5_town dX5_readDebt_90 (fun q12 hq12 => ?_)
            refine JO_getR (pc := 93) fl_X5_151 rfl (fkTown_debt hq12) dX5_readDebt_93 ?_
            refine JO_iload_n (pc := 96) dX5_readDebt_96 rfl ?_
            refine JO_iload_n (pc := 97) dX5_readDebt_97 rfl ?_
            refine JO_callSNi (pc := 98) [.int v4, .int v8] lk_X5_154 rfl (w_X11_cell G (d + 6) v4 v8 σ11) rfl rfl (Nat.le_of_ble_eq_true rfl) dX5_readDebt_98 (fun r13 => ?_)
            refine JO_aload_n (pc := 101) dX5_readDebt_101 rfl ?_
            refine JO_iconst (pc := 102) (a := 1) dX5_readDebt_102 (by decide) ?_
            refine JO_sipush (pc := 103) (a := 9999) dX5_readDebt_103 (by decide) ?_
            refine JO_callVi (pc := 106) [.int 1, .int 9999] lk_X5_97 rfl (ci := 5) rfl shX5 (w_X5_expectNumber G d 1 9999 r13.2) rfl rfl (Nat.le_of_ble_eq_true rfl) dX5_readDebt_106 (fun r14 => ?_)
            refine JO_iast (pc := 109) (akTown_debt hq12) dX5_readDebt_109 (fun σ15 => ?_)
            refine JO_aload_n (pc := 110) dX5_readDebt_110 rfl ?_
            refine JO_getT (pc := 111) fl_X5_28 rfl fkX5_town dX5_readDebt_111 (fun q16 hq16 => ?_)
            refine JO_dup (pc := 114) dX5_readDebt_114 rfl ?_
            refine JO_getI (pc := 115) fl_X5_145 rfl (fkTown_debts hq16) dX5_readDebt_115 ?_
            refine JO_iconst (pc := 118) (a := 1) dX5_readDebt_118 (by decide) ?_
            refine JO_iadd (pc := 119) dX5_readDebt_119 ?_
            refine JO_putI (pc := 120) fl_X5_145 rfl (fkTown_debts hq16) dX5_readDebt_120 (fun σ17 => ?_)
            exact JO_retv (pc := 123) rfl dX5_readDebt_123
          · exact JO_sub (l_sub_some (l_sub_none (l_sub_none (l_sub_nil)))) (w_X5_readDebt_78 G d  r10.2)
      · exact JO_retv (pc := 56) rfl dX5_readDebt_56
  · refine JO_aload_n (pc := 12) dX5_readDebt_12 rfl ?_
    refine JO_iconst (pc := 13) (a := 2) dX5_readDebt_13 (by decide) ?_
    refine JO_callVv (pc := 14) [.int 2] lk_X5_77 rfl (ci := 5) rfl shX5 (w_X5_fail G (d + 5) 2 σ) rfl rfl (Nat.le_of_ble_eq_true rfl) dX5_readDebt_14 (fun σ18 => ?_)
    exact JO_retv (pc := 17) rfl dX5_readDebt_17
set_option maxHeartbeats 4000000 in
set_option maxRecDepth 100000 in
theorem w_X5_readUnit_189 (G : JG) (d : Nat) (R : (Nat → Nat → Int32 → Mem → Option Mem)) (f : Nat) (hf : isForm f) (hR : ∀ (f : Nat) (hf : isForm f) (x2 : Int32) (σ : Mem), JS G mX5_readWhole (d + 6) [.ref (G.1 + off 2), .ref (G.1 + off f), .int x2] σ rV (R 0 f x2 σ) ∧ JS G mX5_readBoth (d + 6) [.ref (G.1 + off 2), .ref (G.1 + off f), .int x2] σ rV (R 1 f x2 σ) ∧ JS G mX5_readOne (d + 6) [.ref (G.1 + off 2), .ref (G.1 + off f), .int x2] σ rV (R 2 f x2 σ) ∧ JS G mX5_readSum (d + 6) [.ref (G.1 + off 2), .ref (G.1 + off f), .int x2] σ rV (R 3 f x2 σ) ∧ JS G mX5_readTerm (d + 6) [.ref (G.1 + off 2), .ref (G.1 + off f), .int x2] σ rV (R 4 f x2 σ) ∧ JS G mX5_readUnit (d + 6) [.ref (G.1 + off 2), .ref (G.1 + off f), .int x2] σ rV (R 5 f x2 σ)) : ∀ (σ : Mem), JO G mX5_readUnit (d + 7) 189 [some (.ref (G.1 + off 2)), none, none, none, none] [] σ rV (X5_readUnit_189 R f σ) := by
  intro σ
  unfold X5_readUnit_189
  refine JO_aload_n (pc := 189) dX5_readUnit_189 rfl ?_
  refine JO_getR (pc := 190) fl_X5_12 rfl fkX5_tokens dX5_readUnit_190 ?_
  refine JO_callVv (pc := 193) [] lk_X5_91 rfl (ci := 9) rfl shX9 (w_X9_next G (d + 1)  σ) rfl rfl (Nat.le_of_ble_eq_true rfl) dX5_readUnit_193 (fun σ15 => ?_)
  exact JO_retv (pc := 196) rfl dX5_readUnit_196
set_option maxHeartbeats 4000000 in
set_option maxRecDepth 100000 in
theorem w_X5_readUnit_68 (G : JG) (d : Nat) (R : (Nat → Nat → Int32 → Mem → Option Mem)) (f : Nat) (hf : isForm f) (hR : ∀ (f : Nat) (hf : isForm f) (x2 : Int32) (σ : Mem), JS G mX5_readWhole (d + 6) [.ref (G.1 + off 2), .ref (G.1 + off f), .int x2] σ rV (R 0 f x2 σ) ∧ JS G mX5_readBoth (d + 6) [.ref (G.1 + off 2), .ref (G.1 + off f), .int x2] σ rV (R 1 f x2 σ) ∧ JS G mX5_readOne (d + 6) [.ref (G.1 + off 2), .ref (G.1 + off f), .int x2] σ rV (R 2 f x2 σ) ∧ JS G mX5_readSum (d + 6) [.ref (G.1 + off 2), .ref (G.1 + off f), .int x2] σ rV (R 3 f x2 σ) ∧ JS G mX5_readTerm (d + 6) [.ref (G.1 + off 2), .ref (G.1 + off f), .int x2] σ rV (R 4 f x2 σ) ∧ JS G mX5_readUnit (d + 6) [.ref (G.1 + off 2), .ref (G.1 + off f), .int x2] σ rV (R 5 f x2 σ)) (k69 : Int32 → Int32 → Int32 → Mem → Option Mem) (hk69 : ∀ (x2 : Int32) (x3 : Int32) (s0 : Int32) (σ : Mem), JO G mX5_readUnit (d + 7) 69 [some (.ref (G.1 + off 2)), some (.ref (G.1 + off f)), some (.int x2), some (.int x3), none] [.int s0] σ rV (k69 x2 x3 s0 σ)) : ∀ (x2 : Int32) (x3 : Int32) (σ : Mem), JO G mX5_readUnit (d + 7) 68 [some (.ref (G.1 + off 2)), some (.ref (G.1 + off f)), some (.int x2), some (.int x3), none] [] σ rV (X5_readUnit_68 R f k69 x2 x3 σ) := by
  intro x2 x3 σ
  unfold X5_readUnit_68
  refine JO_iconst (pc := 68) (a := 0) dX5_readUnit_68 (by decide) ?_
  exact JO_sub (l_sub_some (l_sub_some (l_sub_some (l_sub_some (l_sub_none (l_sub_nil)))))) (hk69 x2 x3 0 σ)
set_option maxHeartbeats 4000000 in
set_option maxRecDepth 100000 in
theorem w_X5_readUnit_97 (G : JG) (d : Nat) (R : (Nat → Nat → Int32 → Mem → Option Mem)) (f : Nat) (hf : isForm f) (hR : ∀ (f : Nat) (hf : isForm f) (x2 : Int32) (σ : Mem), JS G mX5_readWhole (d + 6) [.ref (G.1 + off 2), .ref (G.1 + off f), .int x2] σ rV (R 0 f x2 σ) ∧ JS G mX5_readBoth (d + 6) [.ref (G.1 + off 2), .ref (G.1 + off f), .int x2] σ rV (R 1 f x2 σ) ∧ JS G mX5_readOne (d + 6) [.ref (G.1 + off 2), .ref (G.1 + off f), .int x2] σ rV (R 2 f x2 σ) ∧ JS G mX5_readSum (d + 6) [.ref (G.1 + off 2), .ref (G.1 + off f), .int x2] σ rV (R 3 f x2 σ) ∧ JS G mX5_readTerm (d + 6) [.ref (G.1 + off 2), .ref (G.1 + off f), .int x2] σ rV (R 4 f x2 σ) ∧ JS G mX5_readUnit (d + 6) [.ref (G.1 + off 2), .ref (G.1 + off f), .int x2] σ rV (R 5 f x2 σ)) : ∀ (σ : Mem), JO G mX5_readUnit (d + 7) 97 [some (.ref (G.1 + off 2)), none, none, none, none] [] σ rV (X5_readUnit_97 R f σ) := by
  intro σ
  unfold X5_readUnit_97
  refine JO_aload_n (pc := 97) dX5_readUnit_97 rfl ?_
  refine JO_iconst (pc := 98) (a := 2) dX5_readUnit_98 (by decide) ?_
  refine JO_callVv (pc := 99) [.int 2] lk_X5_77 rfl (ci := 5) rfl shX5 (w_X5_fail G (d + 5) 2 σ) rfl rfl (Nat.le_of_ble_eq_true rfl) dX5_readUnit_99 (fun σ14 => ?_)
  exact JO_retv (pc := 102) rfl dX5_readUnit_102
set_option maxHeartbeats 4000000 in
set_option maxRecDepth 100000 in
theorem w_X5_readUnit_64 (G : JG) (d : Nat) (R : (Nat → Nat → Int32 → Mem → Option Mem)) (f : Nat) (hf : isForm f) (hR : ∀ (f : Nat) (hf : isForm f) (x2 : Int32) (σ : Mem), JS G mX5_readWhole (d + 6) [.ref (G.1 + off 2), .ref (G.1 + off f), .int x2] σ rV (R 0 f x2 σ) ∧ JS G mX5_readBoth (d + 6) [.ref (G.1 + off 2), .ref (G.1 + off f), .int x2] σ rV (R 1 f x2 σ) ∧ JS G mX5_readOne (d + 6) [.ref (G.1 + off 2), .ref (G.1 + off f), .int x2] σ rV (R 2 f x2 σ) ∧ JS G mX5_readSum (d + 6) [.ref (G.1 + off 2), .ref (G.1 + off f), .int x2] σ rV (R 3 f x2 σ) ∧ JS G mX5_readTerm (d + 6) [.ref (G.1 + off 2), .ref (G.1 + off f), .int x2] σ rV (R 4 f x2 σ) ∧ JS G mX5_readUnit (d + 6) [.ref (G.1 + off 2), .ref (G.1 + off f), .int x2] σ rV (R 5 f x2 σ)) (k69 : Int32 → Int32 → Int32 → Mem → Option Mem) (hk69 : ∀ (x2 : Int32) (x3 : Int32) (s0 : Int32) (σ : Mem), JO G mX5_readUnit (d + 7) 69 [some (.ref (G.1 + off 2)), some (.ref (G.1 + off f)), some (.int x2), some (.int x3), none] [.int s0] σ rV (k69 x2 x3 s0 σ)) : ∀ (x2 : Int32) (x3 : Int32) (σ : Mem), JO G mX5_readUnit (d + 7) 64 [some (.ref (G.1 + off 2)), some (.ref (G.1 + off f)), some (.int x2), some (.int x3), none] [] σ rV (X5_readUnit_64 R f k69 x2 x3 σ) := by
  intro x2 x3 σ
  unfold X5_readUnit_64
  refine JO_iconst (pc := 64) (a := 1) dX5_readUnit_64 (by decide) ?_
  refine JO_goto (pc := 65) (tgt := 69) dX5_readUnit_65 (by decide) ?_
  exact JO_sub (l_sub_some (l_sub_some (l_sub_some (l_sub_some (l_sub_none (l_sub_nil)))))) (hk69 x2 x3 1 σ)
set_option maxHeartbeats 4000000 in
set_option maxRecDepth 100000 in
theorem w_X5_readUnit_69 (G : JG) (d : Nat) (R : (Nat → Nat → Int32 → Mem → Option Mem)) (f : Nat) (hf : isForm f) (hR : ∀ (f : Nat) (hf : isForm f) (x2 : Int32) (σ : Mem), JS G mX5_readWhole (d + 6) [.ref (G.1 + off 2), .ref (G.1 + off f), .int x2] σ rV (R 0 f x2 σ) ∧ JS G mX5_readBoth (d + 6) [.ref (G.1 + off 2), .ref (G.1 + off f), .int x2] σ rV (R 1 f x2 σ) ∧ JS G mX5_readOne (d + 6) [.ref (G.1 + off 2), .ref (G.1 + off f), .int x2] σ rV (R 2 f x2 σ) ∧ JS G mX5_readSum (d + 6) [.ref (G.1 + off 2), .ref (G.1 + off f), .int x2] σ rV (R 3 f x2 σ) ∧ JS G mX5_readTerm (d + 6) [.ref (G.1 + off 2), .ref (G.1 + off f), .int x2] σ rV (R 4 f x2 σ) ∧ JS G mX5_readUnit (d + 6) [.ref (G.1 + off 2), .ref (G.1 + off f), .int x2] σ rV (R 5 f x2 σ)) : ∀ (x2 : Int32) (x3 : Int32) (s0 : Int32) (σ : Mem), JO G mX5_readUnit (d + 7) 69 [some (.ref (G.1 + off 2)), some (.ref (G.1 + off f)), some (.int x2), some (.int x3), none] [.int s0] σ rV (X5_readUnit_69 R f x2 x3 s0 σ) := by
  intro x2 x3 s0 σ
  unfold X5_readUnit_69
  refine JO_istore (pc := 69) (L' := [some (.ref (G.1 + off 2)), some (.ref (G.1 + off f)), some (.int x2), some (.int x3), some (.int s0)]) dX5_readUnit_69 rfl rfl rfl ?_
  refine JO_iload (pc := 71) dX5_readUnit_71 rfl ?_
  refine JO_if_eq (pc := 73) (tgt := 97) dX5_readUnit_73 (by decide) ?_ ?_
  · exact JO_sub (l_sub_some (l_sub_none (l_sub_none (l_sub_none (l_sub_none (l_sub_nil)))))) (w_X5_readUnit_97 G d R f hf hR  σ)
  · refine JO_aload_n (pc := 76) dX5_readUnit_76 rfl ?_
    refine JO_getI (pc := 77) fl_X5_163 rfl fkX5_unitsOfFormula dX5_readUnit_77 ?_
    refine JO_bipush (pc := 80) (a := 30) dX5_readUnit_80 (by decide) ?_
    refine JO_icmp_ge (pc := 82) (tgt := 97) dX5_readUnit_82 (by decide) ?_ ?_
    · exact JO_sub (l_sub_some (l_sub_none (l_sub_none (l_sub_none (l_sub_none (l_sub_nil)))))) (w_X5_readUnit_97 G d R f hf hR  σ)
    · refine JO_aload_n (pc := 85) dX5_readUnit_85 rfl ?_
      refine JO_getT (pc := 86) fl_X5_28 rfl fkX5_town dX5_readUnit_86 (fun q4 hq4 => ?_)
      refine JO_getI (pc := 89) fl_X5_188 rfl (fkTown_units hq4) dX5_readUnit_89 ?_
      refine JO_bipush (pc := 92) (a := 80) dX5_readUnit_92 (by decide) ?_
      refine JO_icmp_lt (pc := 94) (tgt := 103) dX5_readUnit_94 (by decide) ?_ ?_
      · refine JO_aload_n (pc := 103) dX5_readUnit_103 rfl ?_
        refine JO_dup (pc := 104) dX5_readUnit_104 rfl ?_
        refine JO_getI (pc := 105) fl_X5_163 rfl fkX5_unitsOfFormula dX5_readUnit_105 ?_
        refine JO_iconst (pc := 108) (a := 1) dX5_readUnit_108 (by decide) ?_
        refine JO_iadd (pc := 109) dX5_readUnit_109 ?_
        refine JO_putI (pc := 110) fl_X5_163 rfl fkX5_unitsOfFormula dX5_readUnit_110 (fun σ5 => ?_)
        refine JO_aload_n (pc := 113) dX5_readUnit_113 rfl ?_
        refine JO_getT (pc := 114) fl_X5_28 rfl fkX5_town dX5_readUnit_114 (fun q6 hq6 => ?_)
        refine JO_dup (pc := 117) dX5_readUnit_117 rfl ?_
        refine JO_getI (pc := 118) fl_X5_188 rfl (fkTown_units hq6) dX5_readUnit_118 ?_
        refine JO_iconst (pc := 121) (a := 1) dX5_readUnit_121 (by decide) ?_
        refine JO_iadd (pc := 122) dX5_readUnit_122 ?_
        refine JO_putI (pc := 123) fl_X5_188 rfl (fkTown_units hq6) dX5_readUnit_123 (fun σ7 => ?_)
        refine JO_aload_n (pc := 126) dX5_readUnit_126 rfl ?_
        refine JO_bipush (pc := 127) (a := 40) dX5_readUnit_127 (by decide) ?_
        refine JO_callVi (pc := 129) [.int 40] lk_X5_87 rfl (ci := 5) rfl shX5 (w_X5_isAt G (d + 5) 40 σ7) rfl rfl (Nat.le_of_ble_eq_true rfl) dX5_readUnit_129 (fun r8 => ?_)
        refine JO_if_eq (pc := 132) (tgt := 157) dX5_readUnit_132 (by decide) ?_ ?_
        · refine JO_iload_n (pc := 157) dX5_readUnit_157 rfl ?_
          refine JO_if_eq (pc := 158) (tgt := 178) dX5_readUnit_158 (by decide) ?_ ?_
          · refine JO_aload_n (pc := 178) dX5_readUnit_178 rfl ?_
            refine JO_aload_n (pc := 179) dX5_readUnit_179 rfl ?_
            refine JO_getR (pc := 180) fl_X5_12 rfl fkX5_tokens dX5_readUnit_180 ?_
            refine JO_getI (pc := 183) fl_X5_94 rfl fkX9_number dX5_readUnit_183 ?_
            refine JO_callVv (pc := 186) [.int (r8.2.1 3 5)] lk_X5_194 rfl (ci := 2) rfl (shForm hf) (w_X2_addNumber G (d + 5) f hf (r8.2.1 3 5) r8.2) rfl rfl (Nat.le_of_ble_eq_true rfl) dX5_readUnit_186 (fun σ9 => ?_)
            exact JO_sub (l_sub_some (l_sub_none (l_sub_none (l_sub_none (l_sub_none (l_sub_nil)))))) (w_X5_readUnit_189 G d R f hf hR  σ9)
          · refine JO_aload_n (pc := 161) dX5_readUnit_161 rfl ?_
            refine JO_aload_n (pc := 162) dX5_readUnit_162 rfl ?_
            refine JO_getR (pc := 163) fl_X5_12 rfl fkX5_tokens dX5_readUnit_163 ?_
            refine JO_getI (pc := 166) fl_X5_50 rfl fkX9_kind dX5_readUnit_166 ?_
            refine JO_bipush (pc := 169) (a := 116) dX5_readUnit_169 (by decide) ?_
            refine JO_isub (pc := 171) dX5_readUnit_171 ?_
            refine JO_callVv (pc := 172) [.int ((r8.2.1 3 2) - 116)] lk_X5_191 rfl (ci := 2) rfl (shForm hf) (w_X2_addGiven G (d + 5) f hf ((r8.2.1 3 2) - 116) r8.2) rfl rfl (Nat.le_of_ble_eq_true rfl) dX5_readUnit_172 (fun σ10 => ?_)
            refine JO_goto (pc := 175) (tgt := 189) dX5_readUnit_175 (by decide) ?_
            exact JO_sub (l_sub_some (l_sub_none (l_sub_none (l_sub_none (l_sub_none (l_sub_nil)))))) (w_X5_readUnit_189 G d R f hf hR  σ10)
        · refine JO_aload_n (pc := 135) dX5_readUnit_135 rfl ?_
          refine JO_getR (pc := 136) fl_X5_12 rfl fkX5_tokens dX5_readUnit_136 ?_
          refine JO_callVv (pc := 139) [] lk_X5_91 rfl (ci := 9) rfl shX9 (w_X9_next G (d + 1)  r8.2) rfl rfl (Nat.le_of_ble_eq_true rfl) dX5_readUnit_139 (fun σ11 => ?_)
          refine JO_aload_n (pc := 142) dX5_readUnit_142 rfl ?_
          refine JO_aload_n (pc := 143) dX5_readUnit_143 rfl ?_
          refine JO_iload_n (pc := 144) dX5_readUnit_144 rfl ?_
          refine JO_iconst (pc := 145) (a := 1) dX5_readUnit_145 (by decide) ?_
          refine JO_iadd (pc := 146) dX5_readUnit_146 ?_
          refine JO_callVv (pc := 147) [.ref (G.1 + off f), .int (x2 + 1)] lk_X5_166 rfl (ci := 5) rfl shX5 ((hR f hf (x2 + 1) σ11).1) rfl rfl (Nat.le_of_ble_eq_true rfl) dX5_readUnit_147 (fun σ12 => ?_)
          refine JO_aload_n (pc := 150) dX5_readUnit_150 rfl ?_
          refine JO_bipush (pc := 151) (a := 41) dX5_readUnit_151 (by decide) ?_
          refine JO_callVv (pc := 153) [.int 41] lk_X5_81 rfl (ci := 5) rfl shX5 (w_X5_expect G d 41 σ12) rfl rfl (Nat.le_of_ble_eq_true rfl) dX5_readUnit_153 (fun σ13 => ?_)
          exact JO_retv (pc := 156) rfl dX5_readUnit_156
      · exact JO_sub (l_sub_some (l_sub_none (l_sub_none (l_sub_none (l_sub_none (l_sub_nil)))))) (w_X5_readUnit_97 G d R f hf hR  σ)
set_option maxHeartbeats 4000000 in
set_option maxRecDepth 100000 in
theorem w_X5_readUnit_35 (G : JG) (d : Nat) (R : (Nat → Nat → Int32 → Mem → Option Mem)) (f : Nat) (hf : isForm f) (hR : ∀ (f : Nat) (hf : isForm f) (x2 : Int32) (σ : Mem), JS G mX5_readWhole (d + 6) [.ref (G.1 + off 2), .ref (G.1 + off f), .int x2] σ rV (R 0 f x2 σ) ∧ JS G mX5_readBoth (d + 6) [.ref (G.1 + off 2), .ref (G.1 + off f), .int x2] σ rV (R 1 f x2 σ) ∧ JS G mX5_readOne (d + 6) [.ref (G.1 + off 2), .ref (G.1 + off f), .int x2] σ rV (R 2 f x2 σ) ∧ JS G mX5_readSum (d + 6) [.ref (G.1 + off 2), .ref (G.1 + off f), .int x2] σ rV (R 3 f x2 σ) ∧ JS G mX5_readTerm (d + 6) [.ref (G.1 + off 2), .ref (G.1 + off f), .int x2] σ rV (R 4 f x2 σ) ∧ JS G mX5_readUnit (d + 6) [.ref (G.1 + off 2), .ref (G.1 + off f), .int x2] σ rV (R 5 f x2 σ)) (k36 : Int32 → Int32 → Mem → Option Mem) (hk36 : ∀ (x2 : Int32) (s0 : Int32) (σ : Mem), JO G mX5_readUnit (d + 7) 36 [some (.ref (G.1 + off 2)), some (.ref (G.1 + off f)), some (.int x2), none, none] [.int s0] σ rV (k36 x2 s0 σ)) : ∀ (x2 : Int32) (σ : Mem), JO G mX5_readUnit (d + 7) 35 [some (.ref (G.1 + off 2)), some (.ref (G.1 + off f)), some (.int x2), none, none] [] σ rV (X5_readUnit_35 R f k36 x2 σ) := by
  intro x2 σ
  unfold X5_readUnit_35
  refine JO_iconst (pc := 35) (a := 0) dX5_readUnit_35 (by decide) ?_
  exact JO_sub (l_sub_some (l_sub_some (l_sub_some (l_sub_none (l_sub_none (l_sub_nil)))))) (hk36 x2 0 σ)
set_option maxHeartbeats 4000000 in
set_option maxRecDepth 100000 in
theorem w_X5_readUnit_36 (G : JG) (d : Nat) (R : (Nat → Nat → Int32 → Mem → Option Mem)) (f : Nat) (hf : isForm f) (hR : ∀ (f : Nat) (hf : isForm f) (x2 : Int32) (σ : Mem), JS G mX5_readWhole (d + 6) [.ref (G.1 + off 2), .ref (G.1 + off f), .int x2] σ rV (R 0 f x2 σ) ∧ JS G mX5_readBoth (d + 6) [.ref (G.1 + off 2), .ref (G.1 + off f), .int x2] σ rV (R 1 f x2 σ) ∧ JS G mX5_readOne (d + 6) [.ref (G.1 + off 2), .ref (G.1 + off f), .int x2] σ rV (R 2 f x2 σ) ∧ JS G mX5_readSum (d + 6) [.ref (G.1 + off 2), .ref (G.1 + off f), .int x2] σ rV (R 3 f x2 σ) ∧ JS G mX5_readTerm (d + 6) [.ref (G.1 + off 2), .ref (G.1 + off f), .int x2] σ rV (R 4 f x2 σ) ∧ JS G mX5_readUnit (d + 6) [.ref (G.1 + off 2), .ref (G.1 + off f), .int x2] σ rV (R 5 f x2 σ)) : ∀ (x2 : Int32) (s0 : Int32) (σ : Mem), JO G mX5_readUnit (d + 7) 36 [some (.ref (G.1 + off 2)), some (.ref (G.1 + off f)), some (.int x2), none, none] [.int s0] σ rV (X5_readUnit_36 R f x2 s0 σ) := by
  intro x2 s0 σ
  unfold X5_readUnit_36
  refine JO_istore_n (pc := 36) (L' := [some (.ref (G.1 + off 2)), some (.ref (G.1 + off f)), some (.int x2), some (.int s0), none]) dX5_readUnit_36 rfl rfl rfl ?_
  refine JO_iload_n (pc := 37) dX5_readUnit_37 rfl ?_
  refine JO_if_ne (pc := 38) (tgt := 64) dX5_readUnit_38 (by decide) ?_ ?_
  · exact JO_sub (l_sub_some (l_sub_some (l_sub_some (l_sub_some (l_sub_none (l_sub_nil)))))) (w_X5_readUnit_64 G d R f hf hR _ (w_X5_readUnit_69 G d R f hf hR) x2 s0 σ)
  · refine JO_aload_n (pc := 41) dX5_readUnit_41 rfl ?_
    refine JO_iconst (pc := 42) (a := 2) dX5_readUnit_42 (by decide) ?_
    refine JO_callVi (pc := 43) [.int 2] lk_X5_87 rfl (ci := 5) rfl shX5 (w_X5_isAt G (d + 5) 2 σ) rfl rfl (Nat.le_of_ble_eq_true rfl) dX5_readUnit_43 (fun r2 => ?_)
    refine JO_if_ne (pc := 46) (tgt := 64) dX5_readUnit_46 (by decide) ?_ ?_
    · exact JO_sub (l_sub_some (l_sub_some (l_sub_some (l_sub_some (l_sub_none (l_sub_nil)))))) (w_X5_readUnit_64 G d R f hf hR _ (w_X5_readUnit_69 G d R f hf hR) x2 s0 r2.2)
    · refine JO_aload_n (pc := 49) dX5_readUnit_49 rfl ?_
      refine JO_bipush (pc := 50) (a := 40) dX5_readUnit_50 (by decide) ?_
      refine JO_callVi (pc := 52) [.int 40] lk_X5_87 rfl (ci := 5) rfl shX5 (w_X5_isAt G (d + 5) 40 r2.2) rfl rfl (Nat.le_of_ble_eq_true rfl) dX5_readUnit_52 (fun r3 => ?_)
      refine JO_if_eq (pc := 55) (tgt := 68) dX5_readUnit_55 (by decide) ?_ ?_
      · exact JO_sub (l_sub_some (l_sub_some (l_sub_some (l_sub_some (l_sub_none (l_sub_nil)))))) (w_X5_readUnit_68 G d R f hf hR _ (w_X5_readUnit_69 G d R f hf hR) x2 s0 r3.2)
      · refine JO_iload_n (pc := 58) dX5_readUnit_58 rfl ?_
        refine JO_bipush (pc := 59) (a := 6) dX5_readUnit_59 (by decide) ?_
        refine JO_icmp_gt (pc := 61) (tgt := 68) dX5_readUnit_61 (by decide) ?_ ?_
        · exact JO_sub (l_sub_some (l_sub_some (l_sub_some (l_sub_some (l_sub_none (l_sub_nil)))))) (w_X5_readUnit_68 G d R f hf hR _ (w_X5_readUnit_69 G d R f hf hR) x2 s0 r3.2)
        · exact JO_sub (l_sub_some (l_sub_some (l_sub_some (l_sub_some (l_sub_none (l_sub_nil)))))) (w_X5_readUnit_64 G d R f hf hR _ (w_X5_readUnit_69 G d R f hf hR) x2 s0 r3.2)
set_option maxHeartbeats 4000000 in
set_option maxRecDepth 100000 in
theorem w_X5_readUnit (G : JG) (d : Nat) (R : (Nat → Nat → Int32 → Mem → Option Mem)) (f : Nat) (hf : isForm f) (hR : ∀ (f : Nat) (hf : isForm f) (x2 : Int32) (σ : Mem), JS G mX5_readWhole (d + 6) [.ref (G.1 + off 2), .ref (G.1 + off f), .int x2] σ rV (R 0 f x2 σ) ∧ JS G mX5_readBoth (d + 6) [.ref (G.1 + off 2), .ref (G.1 + off f), .int x2] σ rV (R 1 f x2 σ) ∧ JS G mX5_readOne (d + 6) [.ref (G.1 + off 2), .ref (G.1 + off f), .int x2] σ rV (R 2 f x2 σ) ∧ JS G mX5_readSum (d + 6) [.ref (G.1 + off 2), .ref (G.1 + off f), .int x2] σ rV (R 3 f x2 σ) ∧ JS G mX5_readTerm (d + 6) [.ref (G.1 + off 2), .ref (G.1 + off f), .int x2] σ rV (R 4 f x2 σ) ∧ JS G mX5_readUnit (d + 6) [.ref (G.1 + off 2), .ref (G.1 + off f), .int x2] σ rV (R 5 f x2 σ)) (x2 : Int32) (σ : Mem) : JS G mX5_readUnit (d + 7) [.ref (G.1 + off 2), .ref (G.1 + off f), .int x2] σ rV (X5_readUnit R f x2 σ) := by
  refine JS_of 2 (by decide +kernel) (Nat.le_of_ble_eq_true rfl) (L := [some (.ref (G.1 + off 2)), some (.ref (G.1 + off f)), some (.int x2), none, none]) rfl ?_
  unfold X5_readUnit
  refine JO_aload_n (pc := 0) dX5_readUnit_0 rfl ?_
  refine JO_callVi (pc := 1) [] lk_X5_46 rfl (ci := 5) rfl shX5 (w_X5_isGood G (d + 6)  σ) rfl rfl (Nat.le_of_ble_eq_true rfl) dX5_readUnit_1 (fun r1 => ?_)
  refine JO_if_eq (pc := 4) (tgt := 35) dX5_readUnit_4 (by decide) ?_ ?_
  · exact JO_sub (l_sub_some (l_sub_some (l_sub_some (l_sub_none (l_sub_none (l_sub_nil)))))) (w_X5_readUnit_35 G d R f hf hR _ (w_X5_readUnit_36 G d R f hf hR) x2 r1.2)
  · refine JO_aload_n (pc := 7) dX5_readUnit_7 rfl ?_
    refine JO_getR (pc := 8) fl_X5_12 rfl fkX5_tokens dX5_readUnit_8 ?_
    refine JO_getI (pc := 11) fl_X5_50 rfl fkX9_kind dX5_readUnit_11 ?_
    refine JO_bipush (pc := 14) (a := 116) dX5_readUnit_14 (by decide) ?_
    refine JO_icmp_lt (pc := 16) (tgt := 35) dX5_readUnit_16 (by decide) ?_ ?_
    · exact JO_sub (l_sub_some (l_sub_some (l_sub_some (l_sub_none (l_sub_none (l_sub_nil)))))) (w_X5_readUnit_35 G d R f hf hR _ (w_X5_readUnit_36 G d R f hf hR) x2 r1.2)
    · refine JO_aload_n (pc := 19) dX5_readUnit_19 rfl ?_
      refine JO_getR (pc := 20) fl_X5_12 rfl fkX5_tokens dX5_readUnit_20 ?_
      refine JO_getI (pc := 23) fl_X5_50 rfl fkX9_kind dX5_readUnit_23 ?_
      refine JO_bipush (pc := 26) (a := 123) dX5_readUnit_26 (by decide) ?_
      refine JO_icmp_ge (pc := 28) (tgt := 35) dX5_readUnit_28 (by decide) ?_ ?_
      · exact JO_sub (l_sub_some (l_sub_some (l_sub_some (l_sub_none (l_sub_none (l_sub_nil)))))) (w_X5_readUnit_35 G d R f hf hR _ (w_X5_readUnit_36 G d R f hf hR) x2 r1.2)
      · refine JO_iconst (pc := 31) (a := 1) dX5_readUnit_31 (by decide) ?_
        refine JO_goto (pc := 32) (tgt := 36) dX5_readUnit_32 (by decide) ?_
        exact JO_sub (l_sub_some (l_sub_some (l_sub_some (l_sub_none (l_sub_none (l_sub_nil)))))) (w_X5_readUnit_36 G d R f hf hR x2 1 r1.2)
set_option maxHeartbeats 4000000 in
set_option maxRecDepth 100000 in
theorem w_X5_readTerm_42 (G : JG) (d : Nat) (R : (Nat → Nat → Int32 → Mem → Option Mem)) (f : Nat) (hf : isForm f) (hR : ∀ (f : Nat) (hf : isForm f) (x2 : Int32) (σ : Mem), JS G mX5_readWhole (d + 6) [.ref (G.1 + off 2), .ref (G.1 + off f), .int x2] σ rV (R 0 f x2 σ) ∧ JS G mX5_readBoth (d + 6) [.ref (G.1 + off 2), .ref (G.1 + off f), .int x2] σ rV (R 1 f x2 σ) ∧ JS G mX5_readOne (d + 6) [.ref (G.1 + off 2), .ref (G.1 + off f), .int x2] σ rV (R 2 f x2 σ) ∧ JS G mX5_readSum (d + 6) [.ref (G.1 + off 2), .ref (G.1 + off f), .int x2] σ rV (R 3 f x2 σ) ∧ JS G mX5_readTerm (d + 6) [.ref (G.1 + off 2), .ref (G.1 + off f), .int x2] σ rV (R 4 f x2 σ) ∧ JS G mX5_readUnit (d + 6) [.ref (G.1 + off 2), .ref (G.1 + off f), .int x2] σ rV (R 5 f x2 σ)) (k8 : Int32 → Int32 → Mem → Option Mem) (hk8 : ∀ (x2 : Int32) (x3 : Int32) (σ : Mem), JO G mX5_readTerm (d + 7) 8 [some (.ref (G.1 + off 2)), some (.ref (G.1 + off f)), some (.int x2), some (.int x3), none] [] σ rV (k8 x2 x3 σ)) : ∀ (x2 : Int32) (x3 : Int32) (σ : Mem), JO G mX5_readTerm (d + 7) 42 [some (.ref (G.1 + off 2)), some (.ref (G.1 + off f)), some (.int x2), some (.int x3), none] [] σ rV (X5_readTerm_42 R f k8 x2 x3 σ) := by
  intro x2 x3 σ
  unfold X5_readTerm_42
  refine JO_aload_n (pc := 42) dX5_readTerm_42 rfl ?_
  refine JO_getR (pc := 43) fl_X5_12 rfl fkX5_tokens dX5_readTerm_43 ?_
  refine JO_getI (pc := 46) fl_X5_50 rfl fkX9_kind dX5_readTerm_46 ?_
  refine JO_nm (fun v6 => ?_)
  refine JO_istore (pc := 49) (L' := [some (.ref (G.1 + off 2)), some (.ref (G.1 + off f)), some (.int x2), some (.int x3), some (.int v6)]) dX5_readTerm_49 rfl rfl rfl ?_
  refine JO_aload_n (pc := 51) dX5_readTerm_51 rfl ?_
  refine JO_getR (pc := 52) fl_X5_12 rfl fkX5_tokens dX5_readTerm_52 ?_
  refine JO_callVv (pc := 55) [] lk_X5_91 rfl (ci := 9) rfl shX9 (w_X9_next G (d + 1)  σ) rfl rfl (Nat.le_of_ble_eq_true rfl) dX5_readTerm_55 (fun σ7 => ?_)
  refine JO_aload_n (pc := 58) dX5_readTerm_58 rfl ?_
  refine JO_aload_n (pc := 59) dX5_readTerm_59 rfl ?_
  refine JO_iload_n (pc := 60) dX5_readTerm_60 rfl ?_
  refine JO_callVv (pc := 61) [.ref (G.1 + off f), .int x2] lk_X5_185 rfl (ci := 5) rfl shX5 ((hR f hf x2 σ7).2.2.2.2.2) rfl rfl (Nat.le_of_ble_eq_true rfl) dX5_readTerm_61 (fun σ8 => ?_)
  refine JO_aload_n (pc := 64) dX5_readTerm_64 rfl ?_
  refine JO_iload (pc := 65) dX5_readTerm_65 rfl ?_
  refine JO_callVv (pc := 67) [.int v6] lk_X5_173 rfl (ci := 2) rfl (shForm hf) (w_X2_addOperation G (d + 6) f hf v6 σ8) rfl rfl (Nat.le_of_ble_eq_true rfl) dX5_readTerm_67 (fun σ9 => ?_)
  refine JO_inc (pc := 70) (b := 1) (L' := fun v10 => [some (.ref (G.1 + off 2)), some (.ref (G.1 + off f)), some (.int x2), some (.int v10), some (.int v6)]) dX5_readTerm_70 rfl rfl (by decide) rfl (fun _ => rfl) (fun v10 => ?_)
  refine JO_goto (pc := 73) (tgt := 8) dX5_readTerm_73 (by decide) ?_
  exact JO_sub (l_sub_some (l_sub_some (l_sub_some (l_sub_some (l_sub_none (l_sub_nil)))))) (hk8 x2 v10 σ9)
set_option maxHeartbeats 4000000 in
set_option maxRecDepth 100000 in
theorem w_X5_readTerm_8 (G : JG) (d : Nat) (R : (Nat → Nat → Int32 → Mem → Option Mem)) (f : Nat) (hf : isForm f) (hR : ∀ (f : Nat) (hf : isForm f) (x2 : Int32) (σ : Mem), JS G mX5_readWhole (d + 6) [.ref (G.1 + off 2), .ref (G.1 + off f), .int x2] σ rV (R 0 f x2 σ) ∧ JS G mX5_readBoth (d + 6) [.ref (G.1 + off 2), .ref (G.1 + off f), .int x2] σ rV (R 1 f x2 σ) ∧ JS G mX5_readOne (d + 6) [.ref (G.1 + off 2), .ref (G.1 + off f), .int x2] σ rV (R 2 f x2 σ) ∧ JS G mX5_readSum (d + 6) [.ref (G.1 + off 2), .ref (G.1 + off f), .int x2] σ rV (R 3 f x2 σ) ∧ JS G mX5_readTerm (d + 6) [.ref (G.1 + off 2), .ref (G.1 + off f), .int x2] σ rV (R 4 f x2 σ) ∧ JS G mX5_readUnit (d + 6) [.ref (G.1 + off 2), .ref (G.1 + off f), .int x2] σ rV (R 5 f x2 σ)) : ∀ (n : Nat) (x2 : Int32) (x3 : Int32) (σ : Mem), JO G mX5_readTerm (d + 7) 8 [some (.ref (G.1 + off 2)), some (.ref (G.1 + off f)), some (.int x2), some (.int x3), none] [] σ rV (X5_readTerm_8 R f n x2 x3 σ) := by
  intro n
  induction n with
  | zero =>
    intro x2 x3 σ
    exact JO_none
  | succ n ih =>
    intro x2 x3 σ
    rw [X5_readTerm_8]
    refine JO_iload_n (pc := 8) dX5_readTerm_8 rfl ?_
    refine JO_sipush (pc := 9) (a := 1600) dX5_readTerm_9 (by decide) ?_
    refine JO_icmp_ge (pc := 12) (tgt := 76) dX5_readTerm_12 (by decide) ?_ ?_
    · exact JO_retv (pc := 76) rfl dX5_readTerm_76
    · refine JO_aload_n (pc := 15) dX5_readTerm_15 rfl ?_
      refine JO_bipush (pc := 16) (a := 42) dX5_readTerm_16 (by decide) ?_
      refine JO_callVi (pc := 18) [.int 42] lk_X5_87 rfl (ci := 5) rfl shX5 (w_X5_isAt G (d + 5) 42 σ) rfl rfl (Nat.le_of_ble_eq_true rfl) dX5_readTerm_18 (fun r3 => ?_)
      refine JO_if_ne (pc := 21) (tgt := 42) dX5_readTerm_21 (by decide) ?_ ?_
      · exact JO_sub (l_sub_some (l_sub_some (l_sub_some (l_sub_some (l_sub_none (l_sub_nil)))))) (w_X5_readTerm_42 G d R f hf hR _ (ih) x2 x3 r3.2)
      · refine JO_aload_n (pc := 24) dX5_readTerm_24 rfl ?_
        refine JO_bipush (pc := 25) (a := 47) dX5_readTerm_25 (by decide) ?_
        refine JO_callVi (pc := 27) [.int 47] lk_X5_87 rfl (ci := 5) rfl shX5 (w_X5_isAt G (d + 5) 47 r3.2) rfl rfl (Nat.le_of_ble_eq_true rfl) dX5_readTerm_27 (fun r4 => ?_)
        refine JO_if_ne (pc := 30) (tgt := 42) dX5_readTerm_30 (by decide) ?_ ?_
        · exact JO_sub (l_sub_some (l_sub_some (l_sub_some (l_sub_some (l_sub_none (l_sub_nil)))))) (w_X5_readTerm_42 G d R f hf hR _ (ih) x2 x3 r4.2)
        · refine JO_aload_n (pc := 33) dX5_readTerm_33 rfl ?_
          refine JO_bipush (pc := 34) (a := 37) dX5_readTerm_34 (by decide) ?_
          refine JO_callVi (pc := 36) [.int 37] lk_X5_87 rfl (ci := 5) rfl shX5 (w_X5_isAt G (d + 5) 37 r4.2) rfl rfl (Nat.le_of_ble_eq_true rfl) dX5_readTerm_36 (fun r5 => ?_)
          refine JO_if_eq (pc := 39) (tgt := 76) dX5_readTerm_39 (by decide) ?_ ?_
          · exact JO_retv (pc := 76) rfl dX5_readTerm_76
          · exact JO_sub (l_sub_some (l_sub_some (l_sub_some (l_sub_some (l_sub_none (l_sub_nil)))))) (w_X5_readTerm_42 G d R f hf hR _ (ih) x2 x3 r5.2)
set_option maxHeartbeats 4000000 in
set_option maxRecDepth 100000 in
theorem w_X5_readTerm (G : JG) (d : Nat) (R : (Nat → Nat → Int32 → Mem → Option Mem)) (f : Nat) (hf : isForm f) (hR : ∀ (f : Nat) (hf : isForm f) (x2 : Int32) (σ : Mem), JS G mX5_readWhole (d + 6) [.ref (G.1 + off 2), .ref (G.1 + off f), .int x2] σ rV (R 0 f x2 σ) ∧ JS G mX5_readBoth (d + 6) [.ref (G.1 + off 2), .ref (G.1 + off f), .int x2] σ rV (R 1 f x2 σ) ∧ JS G mX5_readOne (d + 6) [.ref (G.1 + off 2), .ref (G.1 + off f), .int x2] σ rV (R 2 f x2 σ) ∧ JS G mX5_readSum (d + 6) [.ref (G.1 + off 2), .ref (G.1 + off f), .int x2] σ rV (R 3 f x2 σ) ∧ JS G mX5_readTerm (d + 6) [.ref (G.1 + off 2), .ref (G.1 + off f), .int x2] σ rV (R 4 f x2 σ) ∧ JS G mX5_readUnit (d + 6) [.ref (G.1 + off 2), .ref (G.1 + off f), .int x2] σ rV (R 5 f x2 σ)) (x2 : Int32) (σ : Mem) : JS G mX5_readTerm (d + 7) [.ref (G.1 + off 2), .ref (G.1 + off f), .int x2] σ rV (X5_readTerm R f x2 σ) := by
  refine JS_of 2 (by decide +kernel) (Nat.le_of_ble_eq_true rfl) (L := [some (.ref (G.1 + off 2)), some (.ref (G.1 + off f)), some (.int x2), none, none]) rfl ?_
  unfold X5_readTerm
  refine JO_aload_n (pc := 0) dX5_readTerm_0 rfl ?_
  refine JO_aload_n (pc := 1) dX5_readTerm_1 rfl ?_
  refine JO_iload_n (pc := 2) dX5_readTerm_2 rfl ?_
  refine JO_callVv (pc := 3) [.ref (G.1 + off f), .int x2] lk_X5_185 rfl (ci := 5) rfl shX5 ((hR f hf x2 σ).2.2.2.2.2) rfl rfl (Nat.le_of_ble_eq_true rfl) dX5_readTerm_3 (fun σ1 => ?_)
  refine JO_iconst (pc := 6) (a := 0) dX5_readTerm_6 (by decide) ?_
  refine JO_nm (fun v2 => ?_)
  refine JO_istore_n (pc := 7) (L' := [some (.ref (G.1 + off 2)), some (.ref (G.1 + off f)), some (.int x2), some (.int v2), none]) dX5_readTerm_7 rfl rfl rfl ?_
  exact JO_sub (l_sub_some (l_sub_some (l_sub_some (l_sub_some (l_sub_none (l_sub_nil)))))) (w_X5_readTerm_8 G d R f hf hR fu x2 v2 σ1)
set_option maxHeartbeats 4000000 in
set_option maxRecDepth 100000 in
theorem w_X5_readSum_33 (G : JG) (d : Nat) (R : (Nat → Nat → Int32 → Mem → Option Mem)) (f : Nat) (hf : isForm f) (hR : ∀ (f : Nat) (hf : isForm f) (x2 : Int32) (σ : Mem), JS G mX5_readWhole (d + 6) [.ref (G.1 + off 2), .ref (G.1 + off f), .int x2] σ rV (R 0 f x2 σ) ∧ JS G mX5_readBoth (d + 6) [.ref (G.1 + off 2), .ref (G.1 + off f), .int x2] σ rV (R 1 f x2 σ) ∧ JS G mX5_readOne (d + 6) [.ref (G.1 + off 2), .ref (G.1 + off f), .int x2] σ rV (R 2 f x2 σ) ∧ JS G mX5_readSum (d + 6) [.ref (G.1 + off 2), .ref (G.1 + off f), .int x2] σ rV (R 3 f x2 σ) ∧ JS G mX5_readTerm (d + 6) [.ref (G.1 + off 2), .ref (G.1 + off f), .int x2] σ rV (R 4 f x2 σ) ∧ JS G mX5_readUnit (d + 6) [.ref (G.1 + off 2), .ref (G.1 + off f), .int x2] σ rV (R 5 f x2 σ)) (k8 : Int32 → Int32 → Mem → Option Mem) (hk8 : ∀ (x2 : Int32) (x3 : Int32) (σ : Mem), JO G mX5_readSum (d + 7) 8 [some (.ref (G.1 + off 2)), some (.ref (G.1 + off f)), some (.int x2), some (.int x3), none] [] σ rV (k8 x2 x3 σ)) : ∀ (x2 : Int32) (x3 : Int32) (σ : Mem), JO G mX5_readSum (d + 7) 33 [some (.ref (G.1 + off 2)), some (.ref (G.1 + off f)), some (.int x2), some (.int x3), none] [] σ rV (X5_readSum_33 R f k8 x2 x3 σ) := by
  intro x2 x3 σ
  unfold X5_readSum_33
  refine JO_aload_n (pc := 33) dX5_readSum_33 rfl ?_
  refine JO_getR (pc := 34) fl_X5_12 rfl fkX5_tokens dX5_readSum_34 ?_
  refine JO_getI (pc := 37) fl_X5_50 rfl fkX9_kind dX5_readSum_37 ?_
  refine JO_nm (fun v5 => ?_)
  refine JO_istore (pc := 40) (L' := [some (.ref (G.1 + off 2)), some (.ref (G.1 + off f)), some (.int x2), some (.int x3), some (.int v5)]) dX5_readSum_40 rfl rfl rfl ?_
  refine JO_aload_n (pc := 42) dX5_readSum_42 rfl ?_
  refine JO_getR (pc := 43) fl_X5_12 rfl fkX5_tokens dX5_readSum_43 ?_
  refine JO_callVv (pc := 46) [] lk_X5_91 rfl (ci := 9) rfl shX9 (w_X9_next G (d + 1)  σ) rfl rfl (Nat.le_of_ble_eq_true rfl) dX5_readSum_46 (fun σ6 => ?_)
  refine JO_aload_n (pc := 49) dX5_readSum_49 rfl ?_
  refine JO_aload_n (pc := 50) dX5_readSum_50 rfl ?_
  refine JO_iload_n (pc := 51) dX5_readSum_51 rfl ?_
  refine JO_callVv (pc := 52) [.ref (G.1 + off f), .int x2] lk_X5_182 rfl (ci := 5) rfl shX5 ((hR f hf x2 σ6).2.2.2.2.1) rfl rfl (Nat.le_of_ble_eq_true rfl) dX5_readSum_52 (fun σ7 => ?_)
  refine JO_aload_n (pc := 55) dX5_readSum_55 rfl ?_
  refine JO_iload (pc := 56) dX5_readSum_56 rfl ?_
  refine JO_callVv (pc := 58) [.int v5] lk_X5_173 rfl (ci := 2) rfl (shForm hf) (w_X2_addOperation G (d + 6) f hf v5 σ7) rfl rfl (Nat.le_of_ble_eq_true rfl) dX5_readSum_58 (fun σ8 => ?_)
  refine JO_inc (pc := 61) (b := 1) (L' := fun v9 => [some (.ref (G.1 + off 2)), some (.ref (G.1 + off f)), some (.int x2), some (.int v9), some (.int v5)]) dX5_readSum_61 rfl rfl (by decide) rfl (fun _ => rfl) (fun v9 => ?_)
  refine JO_goto (pc := 64) (tgt := 8) dX5_readSum_64 (by decide) ?_
  exact JO_sub (l_sub_some (l_sub_some (l_sub_some (l_sub_some (l_sub_none (l_sub_nil)))))) (hk8 x2 v9 σ8)
set_option maxHeartbeats 4000000 in
set_option maxRecDepth 100000 in
theorem w_X5_readSum_8 (G : JG) (d : Nat) (R : (Nat → Nat → Int32 → Mem → Option Mem)) (f : Nat) (hf : isForm f) (hR : ∀ (f : Nat) (hf : isForm f) (x2 : Int32) (σ : Mem), JS G mX5_readWhole (d + 6) [.ref (G.1 + off 2), .ref (G.1 + off f), .int x2] σ rV (R 0 f x2 σ) ∧ JS G mX5_readBoth (d + 6) [.ref (G.1 + off 2), .ref (G.1 + off f), .int x2] σ rV (R 1 f x2 σ) ∧ JS G mX5_readOne (d + 6) [.ref (G.1 + off 2), .ref (G.1 + off f), .int x2] σ rV (R 2 f x2 σ) ∧ JS G mX5_readSum (d + 6) [.ref (G.1 + off 2), .ref (G.1 + off f), .int x2] σ rV (R 3 f x2 σ) ∧ JS G mX5_readTerm (d + 6) [.ref (G.1 + off 2), .ref (G.1 + off f), .int x2] σ rV (R 4 f x2 σ) ∧ JS G mX5_readUnit (d + 6) [.ref (G.1 + off 2), .ref (G.1 + off f), .int x2] σ rV (R 5 f x2 σ)) : ∀ (n : Nat) (x2 : Int32) (x3 : Int32) (σ : Mem), JO G mX5_readSum (d + 7) 8 [some (.ref (G.1 + off 2)), some (.ref (G.1 + off f)), some (.int x2), some (.int x3), none] [] σ rV (X5_readSum_8 R f n x2 x3 σ) := by
  intro n
  induction n with
  | zero =>
    intro x2 x3 σ
    exact JO_none
  | succ n ih =>
    intro x2 x3 σ
    rw [X5_readSum_8]
    refine JO_iload_n (pc := 8) dX5_readSum_8 rfl ?_
    refine JO_sipush (pc := 9) (a := 1600) dX5_readSum_9 (by decide) ?_
    refine JO_icmp_ge (pc := 12) (tgt := 67) dX5_readSum_12 (by decide) ?_ ?_
    · exact JO_retv (pc := 67) rfl dX5_readSum_67
    · refine JO_aload_n (pc := 15) dX5_readSum_15 rfl ?_
      refine JO_bipush (pc := 16) (a := 43) dX5_readSum_16 (by decide) ?_
      refine JO_callVi (pc := 18) [.int 43] lk_X5_87 rfl (ci := 5) rfl shX5 (w_X5_isAt G (d + 5) 43 σ) rfl rfl (Nat.le_of_ble_eq_true rfl) dX5_readSum_18 (fun r3 => ?_)
      refine JO_if_ne (pc := 21) (tgt := 33) dX5_readSum_21 (by decide) ?_ ?_
      · exact JO_sub (l_sub_some (l_sub_some (l_sub_some (l_sub_some (l_sub_none (l_sub_nil)))))) (w_X5_readSum_33 G d R f hf hR _ (ih) x2 x3 r3.2)
      · refine JO_aload_n (pc := 24) dX5_readSum_24 rfl ?_
        refine JO_bipush (pc := 25) (a := 45) dX5_readSum_25 (by decide) ?_
        refine JO_callVi (pc := 27) [.int 45] lk_X5_87 rfl (ci := 5) rfl shX5 (w_X5_isAt G (d + 5) 45 r3.2) rfl rfl (Nat.le_of_ble_eq_true rfl) dX5_readSum_27 (fun r4 => ?_)
        refine JO_if_eq (pc := 30) (tgt := 67) dX5_readSum_30 (by decide) ?_ ?_
        · exact JO_retv (pc := 67) rfl dX5_readSum_67
        · exact JO_sub (l_sub_some (l_sub_some (l_sub_some (l_sub_some (l_sub_none (l_sub_nil)))))) (w_X5_readSum_33 G d R f hf hR _ (ih) x2 x3 r4.2)
set_option maxHeartbeats 4000000 in
set_option maxRecDepth 100000 in
theorem w_X5_readSum (G : JG) (d : Nat) (R : (Nat → Nat → Int32 → Mem → Option Mem)) (f : Nat) (hf : isForm f) (hR : ∀ (f : Nat) (hf : isForm f) (x2 : Int32) (σ : Mem), JS G mX5_readWhole (d + 6) [.ref (G.1 + off 2), .ref (G.1 + off f), .int x2] σ rV (R 0 f x2 σ) ∧ JS G mX5_readBoth (d + 6) [.ref (G.1 + off 2), .ref (G.1 + off f), .int x2] σ rV (R 1 f x2 σ) ∧ JS G mX5_readOne (d + 6) [.ref (G.1 + off 2), .ref (G.1 + off f), .int x2] σ rV (R 2 f x2 σ) ∧ JS G mX5_readSum (d + 6) [.ref (G.1 + off 2), .ref (G.1 + off f), .int x2] σ rV (R 3 f x2 σ) ∧ JS G mX5_readTerm (d + 6) [.ref (G.1 + off 2), .ref (G.1 + off f), .int x2] σ rV (R 4 f x2 σ) ∧ JS G mX5_readUnit (d + 6) [.ref (G.1 + off 2), .ref (G.1 + off f), .int x2] σ rV (R 5 f x2 σ)) (x2 : Int32) (σ : Mem) : JS G mX5_readSum (d + 7) [.ref (G.1 + off 2), .ref (G.1 + off f), .int x2] σ rV (X5_readSum R f x2 σ) := by
  refine JS_of 2 (by decide +kernel) (Nat.le_of_ble_eq_true rfl) (L := [some (.ref (G.1 + off 2)), some (.ref (G.1 + off f)), some (.int x2), none, none]) rfl ?_
  unfold X5_readSum
  refine JO_aload_n (pc := 0) dX5_readSum_0 rfl ?_
  refine JO_aload_n (pc := 1) dX5_readSum_1 rfl ?_
  refine JO_iload_n (pc := 2) dX5_readSum_2 rfl ?_
  refine JO_callVv (pc := 3) [.ref (G.1 + off f), .int x2] lk_X5_182 rfl (ci := 5) rfl shX5 ((hR f hf x2 σ).2.2.2.2.1) rfl rfl (Nat.le_of_ble_eq_true rfl) dX5_readSum_3 (fun σ1 => ?_)
  refine JO_iconst (pc := 6) (a := 0) dX5_readSum_6 (by decide) ?_
  refine JO_nm (fun v2 => ?_)
  refine JO_istore_n (pc := 7) (L' := [some (.ref (G.1 + off 2)), some (.ref (G.1 + off f)), some (.int x2), some (.int v2), none]) dX5_readSum_7 rfl rfl rfl ?_
  exact JO_sub (l_sub_some (l_sub_some (l_sub_some (l_sub_some (l_sub_none (l_sub_nil)))))) (w_X5_readSum_8 G d R f hf hR fu x2 v2 σ1)
