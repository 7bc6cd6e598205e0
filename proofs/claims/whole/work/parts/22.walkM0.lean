set_option maxHeartbeats 4000000 in
set_option maxRecDepth 100000 in
theorem w_X12_four_3 (G : JG) (d : Nat) : ∀ (n : Nat) (x1 : Int32) (x2 : Int32) (σ : Mem), JO G mX12_four d 3 [some (.ref (G.1 + off 1000)), some (.int x1), some (.int x2)] [] σ rV (X12_four_3 n x1 x2 σ) := by
  intro n
  induction n with
  | zero =>
    intro x1 x2 σ
    exact JO_none
  | succ n ih =>
    intro x1 x2 σ
    rw [X12_four_3]
    refine JO_iload_n (pc := 3) dX12_four_3 rfl ?_
    refine JO_if_lt (pc := 4) (tgt := 39) dX12_four_4 (by decide) ?_ ?_
    · exact JO_retv (pc := 39) rfl dX12_four_39
    · refine JO_aload_n (pc := 7) dX12_four_7 rfl ?_
      refine JO_getR (pc := 8) fl_X12_7 rfl fkX12_tape dX12_four_8 ?_
      refine JO_aload_n (pc := 11) dX12_four_11 rfl ?_
      refine JO_getI (pc := 12) fl_X12_172 rfl fkX12_taped dX12_four_12 ?_
      refine JO_iload_n (pc := 15) dX12_four_15 rfl ?_
      refine JO_iload_n (pc := 16) dX12_four_16 rfl ?_
      refine JO_ishr (pc := 17) dX12_four_17 ?_
      refine JO_sipush (pc := 18) (a := 255) dX12_four_18 (by decide) ?_
      refine JO_iand (pc := 21) dX12_four_21 ?_
      refine JO_iast (pc := 22) akX12_tape dX12_four_22 (fun σ2 => ?_)
      refine JO_aload_n (pc := 23) dX12_four_23 rfl ?_
      refine JO_dup (pc := 24) dX12_four_24 rfl ?_
      refine JO_getI (pc := 25) fl_X12_172 rfl fkX12_taped dX12_four_25 ?_
      refine JO_iconst (pc := 28) (a := 1) dX12_four_28 (by decide) ?_
      refine JO_iadd (pc := 29) dX12_four_29 ?_
      refine JO_putI (pc := 30) fl_X12_172 rfl fkX12_taped dX12_four_30 (fun σ3 => ?_)
      refine JO_inc (pc := 33) (b := (-8)) (L' := fun v4 => [some (.ref (G.1 + off 1000)), some (.int x1), some (.int v4)]) dX12_four_33 rfl rfl (by decide) rfl (fun _ => rfl) (fun v4 => ?_)
      refine JO_goto (pc := 36) (tgt := 3) dX12_four_36 (by decide) ?_
      exact JO_sub (l_sub_some (l_sub_some (l_sub_some (l_sub_nil)))) (ih x1 v4 σ3)
set_option maxHeartbeats 4000000 in
set_option maxRecDepth 100000 in
theorem w_X12_four (G : JG) (d : Nat) (x1 : Int32) (σ : Mem) : JS G mX12_four d [.ref (G.1 + off 1000), .int x1] σ rV (X12_four x1 σ) := by
  refine JS_of 1 (by decide +kernel) (Nat.le_of_ble_eq_true rfl) (L := [some (.ref (G.1 + off 1000)), some (.int x1), none]) rfl ?_
  unfold X12_four
  refine JO_bipush (pc := 0) (a := 24) dX12_four_0 (by decide) ?_
  refine JO_nm (fun v1 => ?_)
  refine JO_istore_n (pc := 2) (L' := [some (.ref (G.1 + off 1000)), some (.int x1), some (.int v1)]) dX12_four_2 rfl rfl rfl ?_
  exact JO_sub (l_sub_some (l_sub_some (l_sub_some (l_sub_nil)))) (w_X12_four_3 G d fu x1 v1 σ)
set_option maxHeartbeats 4000000 in
set_option maxRecDepth 100000 in
theorem w_X12_feed (G : JG) (d : Nat) (x1 : Int32) (x2 : Int32) (x3 : Int32) (x4 : Int32) (x5 : Int32) (σ : Mem) : JS G mX12_feed (d + 1) [.ref (G.1 + off 1000), .int x1, .int x2, .int x3, .int x4, .int x5] σ rI (X12_feed x1 x2 x3 x4 x5 σ) := by
  refine JS_of 0 (by decide +kernel) (Nat.le_of_ble_eq_true rfl) (L := [some (.ref (G.1 + off 1000)), some (.int x1), some (.int x2), some (.int x3), some (.int x4), some (.int x5)]) rfl ?_
  unfold X12_feed
  refine JO_aload_n (pc := 0) dX12_feed_0 rfl ?_
  refine JO_getI (pc := 1) fl_X12_172 rfl fkX12_taped dX12_feed_1 ?_
  refine JO_bipush (pc := 4) (a := 20) dX12_feed_4 (by decide) ?_
  refine JO_iadd (pc := 6) dX12_feed_6 ?_
  refine JO_sipush (pc := 7) (a := 1600) dX12_feed_7 (by decide) ?_
  refine JO_icmp_le (pc := 10) (tgt := 15) dX12_feed_10 (by decide) ?_ ?_
  · refine JO_aload_n (pc := 15) dX12_feed_15 rfl ?_
    refine JO_iload_n (pc := 16) dX12_feed_16 rfl ?_
    refine JO_callVv (pc := 17) [.int x1] lk_X12_175 rfl (ci := 12) rfl shX12 (w_X12_four G d x1 σ) rfl rfl (Nat.le_of_ble_eq_true rfl) dX12_feed_17 (fun σ1 => ?_)
    refine JO_aload_n (pc := 20) dX12_feed_20 rfl ?_
    refine JO_iload_n (pc := 21) dX12_feed_21 rfl ?_
    refine JO_callVv (pc := 22) [.int x2] lk_X12_175 rfl (ci := 12) rfl shX12 (w_X12_four G d x2 σ1) rfl rfl (Nat.le_of_ble_eq_true rfl) dX12_feed_22 (fun σ2 => ?_)
    refine JO_aload_n (pc := 25) dX12_feed_25 rfl ?_
    refine JO_iload_n (pc := 26) dX12_feed_26 rfl ?_
    refine JO_callVv (pc := 27) [.int x3] lk_X12_175 rfl (ci := 12) rfl shX12 (w_X12_four G d x3 σ2) rfl rfl (Nat.le_of_ble_eq_true rfl) dX12_feed_27 (fun σ3 => ?_)
    refine JO_aload_n (pc := 30) dX12_feed_30 rfl ?_
    refine JO_iload (pc := 31) dX12_feed_31 rfl ?_
    refine JO_callVv (pc := 33) [.int x4] lk_X12_175 rfl (ci := 12) rfl shX12 (w_X12_four G d x4 σ3) rfl rfl (Nat.le_of_ble_eq_true rfl) dX12_feed_33 (fun σ4 => ?_)
    refine JO_aload_n (pc := 36) dX12_feed_36 rfl ?_
    refine JO_iload (pc := 37) dX12_feed_37 rfl ?_
    refine JO_callVv (pc := 39) [.int x5] lk_X12_175 rfl (ci := 12) rfl shX12 (w_X12_four G d x5 σ4) rfl rfl (Nat.le_of_ble_eq_true rfl) dX12_feed_39 (fun σ5 => ?_)
    refine JO_aload_n (pc := 42) dX12_feed_42 rfl ?_
    refine JO_getI (pc := 43) fl_X12_172 rfl fkX12_taped dX12_feed_43 ?_
    exact JO_reti (pc := 46) rfl dX12_feed_46
  · refine JO_iconst (pc := 13) (a := (-1)) dX12_feed_13 (by decide) ?_
    exact JO_reti (pc := 14) rfl dX12_feed_14
set_option maxHeartbeats 4000000 in
set_option maxRecDepth 100000 in
theorem w_X12_end (G : JG) (d : Nat) (x1 : Int32) (σ : Mem) : JS G mX12_end d [.ref (G.1 + off 1000), .int x1] σ rI (X12_end x1 σ) := by
  refine JS_of 0 (by decide +kernel) (Nat.le_of_ble_eq_true rfl) (L := [some (.ref (G.1 + off 1000)), some (.int x1)]) rfl ?_
  unfold X12_end
  refine JO_iload_n (pc := 0) dX12_end_0 rfl ?_
  refine JO_if_lt (pc := 1) (tgt := 12) dX12_end_1 (by decide) ?_ ?_
  · refine JO_iconst (pc := 12) (a := (-1)) dX12_end_12 (by decide) ?_
    exact JO_reti (pc := 13) rfl dX12_end_13
  · refine JO_iload_n (pc := 4) dX12_end_4 rfl ?_
    refine JO_aload_n (pc := 5) dX12_end_5 rfl ?_
    refine JO_getI (pc := 6) fl_X12_172 rfl fkX12_taped dX12_end_6 ?_
    refine JO_icmp_le (pc := 9) (tgt := 14) dX12_end_9 (by decide) ?_ ?_
    · refine JO_aload_n (pc := 14) dX12_end_14 rfl ?_
      refine JO_iload_n (pc := 15) dX12_end_15 rfl ?_
      refine JO_putI (pc := 16) fl_X12_172 rfl fkX12_taped dX12_end_16 (fun σ1 => ?_)
      refine JO_iload_n (pc := 19) dX12_end_19 rfl ?_
      exact JO_reti (pc := 20) rfl dX12_end_20
    · refine JO_iconst (pc := 12) (a := (-1)) dX12_end_12 (by decide) ?_
      exact JO_reti (pc := 13) rfl dX12_end_13
set_option maxHeartbeats 4000000 in
set_option maxRecDepth 100000 in
theorem w_X12_here (G : JG) (d : Nat) (x1 : Int32) (σ : Mem) : JS G mX12_here d [.ref (G.1 + off 1000), .int x1] σ rI (X12_here x1 σ) := by
  refine JS_of 0 (by decide +kernel) (Nat.le_of_ble_eq_true rfl) (L := [some (.ref (G.1 + off 1000)), some (.int x1)]) rfl ?_
  unfold X12_here
  refine JO_aload_n (pc := 0) dX12_here_0 rfl ?_
  refine JO_getI (pc := 1) fl_X12_179 rfl fkX12_at dX12_here_1 ?_
  refine JO_iload_n (pc := 4) dX12_here_4 rfl ?_
  refine JO_iadd (pc := 5) dX12_here_5 ?_
  refine JO_aload_n (pc := 6) dX12_here_6 rfl ?_
  refine JO_getI (pc := 7) fl_X12_182 rfl fkX12_size dX12_here_7 ?_
  refine JO_icmp_ge (pc := 10) (tgt := 27) dX12_here_10 (by decide) ?_ ?_
  · refine JO_iconst (pc := 27) (a := (-1)) dX12_here_27 (by decide) ?_
    exact JO_reti (pc := 28) rfl dX12_here_28
  · refine JO_aload_n (pc := 13) dX12_here_13 rfl ?_
    refine JO_getR (pc := 14) fl_X12_7 rfl fkX12_tape dX12_here_14 ?_
    refine JO_aload_n (pc := 17) dX12_here_17 rfl ?_
    refine JO_getI (pc := 18) fl_X12_179 rfl fkX12_at dX12_here_18 ?_
    refine JO_iload_n (pc := 21) dX12_here_21 rfl ?_
    refine JO_iadd (pc := 22) dX12_here_22 ?_
    refine JO_iald (pc := 23) akX12_tape dX12_here_23 ?_
    refine JO_goto (pc := 24) (tgt := 28) dX12_here_24 (by decide) ?_
    exact JO_reti (pc := 28) rfl dX12_here_28
set_option maxHeartbeats 4000000 in
set_option maxRecDepth 100000 in
theorem w_X12_isLetter (G : JG) (d : Nat) (x0 : Int32) (σ : Mem) : JS G mX12_isLetter d [.int x0] σ rI (X12_isLetter x0 σ) := by
  refine JS_of 0 (by decide +kernel) (Nat.le_of_ble_eq_true rfl) (L := [some (.int x0)]) rfl ?_
  unfold X12_isLetter
  refine JO_iload_n (pc := 0) dX12_isLetter_0 rfl ?_
  refine JO_bipush (pc := 1) (a := 97) dX12_isLetter_1 (by decide) ?_
  refine JO_icmp_lt (pc := 3) (tgt := 16) dX12_isLetter_3 (by decide) ?_ ?_
  · refine JO_iconst (pc := 16) (a := 0) dX12_isLetter_16 (by decide) ?_
    exact JO_retzc (pc := 17) (by decide) rfl dX12_isLetter_17
  · refine JO_iload_n (pc := 6) dX12_isLetter_6 rfl ?_
    refine JO_bipush (pc := 7) (a := 122) dX12_isLetter_7 (by decide) ?_
    refine JO_icmp_gt (pc := 9) (tgt := 16) dX12_isLetter_9 (by decide) ?_ ?_
    · refine JO_iconst (pc := 16) (a := 0) dX12_isLetter_16 (by decide) ?_
      exact JO_retzc (pc := 17) (by decide) rfl dX12_isLetter_17
    · refine JO_iconst (pc := 12) (a := 1) dX12_isLetter_12 (by decide) ?_
      refine JO_goto (pc := 13) (tgt := 17) dX12_isLetter_13 (by decide) ?_
      exact JO_retzc (pc := 17) (by decide) rfl dX12_isLetter_17
set_option maxHeartbeats 4000000 in
set_option maxRecDepth 100000 in
theorem w_X12_isDigit (G : JG) (d : Nat) (x0 : Int32) (σ : Mem) : JS G mX12_isDigit d [.int x0] σ rI (X12_isDigit x0 σ) := by
  refine JS_of 0 (by decide +kernel) (Nat.le_of_ble_eq_true rfl) (L := [some (.int x0)]) rfl ?_
  unfold X12_isDigit
  refine JO_iload_n (pc := 0) dX12_isDigit_0 rfl ?_
  refine JO_bipush (pc := 1) (a := 48) dX12_isDigit_1 (by decide) ?_
  refine JO_icmp_lt (pc := 3) (tgt := 16) dX12_isDigit_3 (by decide) ?_ ?_
  · refine JO_iconst (pc := 16) (a := 0) dX12_isDigit_16 (by decide) ?_
    exact JO_retzc (pc := 17) (by decide) rfl dX12_isDigit_17
  · refine JO_iload_n (pc := 6) dX12_isDigit_6 rfl ?_
    refine JO_bipush (pc := 7) (a := 57) dX12_isDigit_7 (by decide) ?_
    refine JO_icmp_gt (pc := 9) (tgt := 16) dX12_isDigit_9 (by decide) ?_ ?_
    · refine JO_iconst (pc := 16) (a := 0) dX12_isDigit_16 (by decide) ?_
      exact JO_retzc (pc := 17) (by decide) rfl dX12_isDigit_17
    · refine JO_iconst (pc := 12) (a := 1) dX12_isDigit_12 (by decide) ?_
      refine JO_goto (pc := 13) (tgt := 17) dX12_isDigit_13 (by decide) ?_
      exact JO_retzc (pc := 17) (by decide) rfl dX12_isDigit_17
set_option maxHeartbeats 4000000 in
set_option maxRecDepth 100000 in
theorem w_X12_isSign (G : JG) (d : Nat) (x0 : Int32) (σ : Mem) : JS G mX12_isSign d [.int x0] σ rI (X12_isSign x0 σ) := by
  refine JS_of 0 (by decide +kernel) (Nat.le_of_ble_eq_true rfl) (L := [some (.int x0)]) rfl ?_
  unfold X12_isSign
  refine JO_iload_n (pc := 0) dX12_isSign_0 rfl ?_
  refine JO_bipush (pc := 1) (a := 59) dX12_isSign_1 (by decide) ?_
  refine JO_icmp_eq (pc := 3) (tgt := 66) dX12_isSign_3 (by decide) ?_ ?_
  · refine JO_iconst (pc := 66) (a := 1) dX12_isSign_66 (by decide) ?_
    refine JO_goto (pc := 67) (tgt := 71) dX12_isSign_67 (by decide) ?_
    exact JO_retzc (pc := 71) (by decide) rfl dX12_isSign_71
  · refine JO_iload_n (pc := 6) dX12_isSign_6 rfl ?_
    refine JO_bipush (pc := 7) (a := 40) dX12_isSign_7 (by decide) ?_
    refine JO_icmp_eq (pc := 9) (tgt := 66) dX12_isSign_9 (by decide) ?_ ?_
    · refine JO_iconst (pc := 66) (a := 1) dX12_isSign_66 (by decide) ?_
      refine JO_goto (pc := 67) (tgt := 71) dX12_isSign_67 (by decide) ?_
      exact JO_retzc (pc := 71) (by decide) rfl dX12_isSign_71
    · refine JO_iload_n (pc := 12) dX12_isSign_12 rfl ?_
      refine JO_bipush (pc := 13) (a := 41) dX12_isSign_13 (by decide) ?_
      refine JO_icmp_eq (pc := 15) (tgt := 66) dX12_isSign_15 (by decide) ?_ ?_
      · refine JO_iconst (pc := 66) (a := 1) dX12_isSign_66 (by decide) ?_
        refine JO_goto (pc := 67) (tgt := 71) dX12_isSign_67 (by decide) ?_
        exact JO_retzc (pc := 71) (by decide) rfl dX12_isSign_71
      · refine JO_iload_n (pc := 18) dX12_isSign_18 rfl ?_
        refine JO_bipush (pc := 19) (a := 60) dX12_isSign_19 (by decide) ?_
        refine JO_icmp_eq (pc := 21) (tgt := 66) dX12_isSign_21 (by decide) ?_ ?_
        · refine JO_iconst (pc := 66) (a := 1) dX12_isSign_66 (by decide) ?_
          refine JO_goto (pc := 67) (tgt := 71) dX12_isSign_67 (by decide) ?_
          exact JO_retzc (pc := 71) (by decide) rfl dX12_isSign_71
        · refine JO_iload_n (pc := 24) dX12_isSign_24 rfl ?_
          refine JO_bipush (pc := 25) (a := 62) dX12_isSign_25 (by decide) ?_
          refine JO_icmp_eq (pc := 27) (tgt := 66) dX12_isSign_27 (by decide) ?_ ?_
          · refine JO_iconst (pc := 66) (a := 1) dX12_isSign_66 (by decide) ?_
            refine JO_goto (pc := 67) (tgt := 71) dX12_isSign_67 (by decide) ?_
            exact JO_retzc (pc := 71) (by decide) rfl dX12_isSign_71
          · refine JO_iload_n (pc := 30) dX12_isSign_30 rfl ?_
            refine JO_bipush (pc := 31) (a := 61) dX12_isSign_31 (by decide) ?_
            refine JO_icmp_eq (pc := 33) (tgt := 66) dX12_isSign_33 (by decide) ?_ ?_
            · refine JO_iconst (pc := 66) (a := 1) dX12_isSign_66 (by decide) ?_
              refine JO_goto (pc := 67) (tgt := 71) dX12_isSign_67 (by decide) ?_
              exact JO_retzc (pc := 71) (by decide) rfl dX12_isSign_71
            · refine JO_iload_n (pc := 36) dX12_isSign_36 rfl ?_
              refine JO_bipush (pc := 37) (a := 43) dX12_isSign_37 (by decide) ?_
              refine JO_icmp_eq (pc := 39) (tgt := 66) dX12_isSign_39 (by decide) ?_ ?_
              · refine JO_iconst (pc := 66) (a := 1) dX12_isSign_66 (by decide) ?_
                refine JO_goto (pc := 67) (tgt := 71) dX12_isSign_67 (by decide) ?_
                exact JO_retzc (pc := 71) (by decide) rfl dX12_isSign_71
              · refine JO_iload_n (pc := 42) dX12_isSign_42 rfl ?_
                refine JO_bipush (pc := 43) (a := 45) dX12_isSign_43 (by decide) ?_
                refine JO_icmp_eq (pc := 45) (tgt := 66) dX12_isSign_45 (by decide) ?_ ?_
                · refine JO_iconst (pc := 66) (a := 1) dX12_isSign_66 (by decide) ?_
                  refine JO_goto (pc := 67) (tgt := 71) dX12_isSign_67 (by decide) ?_
                  exact JO_retzc (pc := 71) (by decide) rfl dX12_isSign_71
                · refine JO_iload_n (pc := 48) dX12_isSign_48 rfl ?_
                  refine JO_bipush (pc := 49) (a := 42) dX12_isSign_49 (by decide) ?_
                  refine JO_icmp_eq (pc := 51) (tgt := 66) dX12_isSign_51 (by decide) ?_ ?_
                  · refine JO_iconst (pc := 66) (a := 1) dX12_isSign_66 (by decide) ?_
                    refine JO_goto (pc := 67) (tgt := 71) dX12_isSign_67 (by decide) ?_
                    exact JO_retzc (pc := 71) (by decide) rfl dX12_isSign_71
                  · refine JO_iload_n (pc := 54) dX12_isSign_54 rfl ?_
                    refine JO_bipush (pc := 55) (a := 47) dX12_isSign_55 (by decide) ?_
                    refine JO_icmp_eq (pc := 57) (tgt := 66) dX12_isSign_57 (by decide) ?_ ?_
                    · refine JO_iconst (pc := 66) (a := 1) dX12_isSign_66 (by decide) ?_
                      refine JO_goto (pc := 67) (tgt := 71) dX12_isSign_67 (by decide) ?_
                      exact JO_retzc (pc := 71) (by decide) rfl dX12_isSign_71
                    · refine JO_iload_n (pc := 60) dX12_isSign_60 rfl ?_
                      refine JO_bipush (pc := 61) (a := 37) dX12_isSign_61 (by decide) ?_
                      refine JO_icmp_ne (pc := 63) (tgt := 70) dX12_isSign_63 (by decide) ?_ ?_
                      · refine JO_iconst (pc := 70) (a := 0) dX12_isSign_70 (by decide) ?_
                        exact JO_retzc (pc := 71) (by decide) rfl dX12_isSign_71
                      · refine JO_iconst (pc := 66) (a := 1) dX12_isSign_66 (by decide) ?_
                        refine JO_goto (pc := 67) (tgt := 71) dX12_isSign_67 (by decide) ?_
                        exact JO_retzc (pc := 71) (by decide) rfl dX12_isSign_71
set_option maxHeartbeats 4000000 in
set_option maxRecDepth 100000 in
theorem w_X12_token_203 (G : JG) (d : Nat) (k208 : Int32 → Int32 → Mem → Option Mem) (hk208 : ∀ (x2 : Int32) (s0 : Int32) (σ : Mem), JO G mX12_token (d + 1) 208 [some (.ref (G.1 + off 1000)), none, some (.int x2)] [.int s0, .ref (G.1 + off 1000)] σ rV (k208 x2 s0 σ)) : ∀ (x2 : Int32) (σ : Mem), JO G mX12_token (d + 1) 203 [some (.ref (G.1 + off 1000)), none, some (.int x2)] [.ref (G.1 + off 1000)] σ rV (X12_token_203 k208 x2 σ) := by
  intro x2 σ
  unfold X12_token_203
  refine JO_iconst (pc := 203) (a := 3) dX12_token_203 (by decide) ?_
  refine JO_goto (pc := 204) (tgt := 208) dX12_token_204 (by decide) ?_
  exact JO_sub (l_sub_some (l_sub_none (l_sub_some (l_sub_nil)))) (hk208 x2 3 σ)
set_option maxHeartbeats 4000000 in
set_option maxRecDepth 100000 in
theorem w_X12_token_208 (G : JG) (d : Nat) (k232 : Int32 → Mem → Option Mem) (hk232 : ∀ (x2 : Int32) (σ : Mem), JO G mX12_token (d + 1) 232 [some (.ref (G.1 + off 1000)), none, some (.int x2)] [] σ rV (k232 x2 σ)) : ∀ (x2 : Int32) (s0 : Int32) (σ : Mem), JO G mX12_token (d + 1) 208 [some (.ref (G.1 + off 1000)), none, some (.int x2)] [.int s0, .ref (G.1 + off 1000)] σ rV (X12_token_208 k232 x2 s0 σ) := by
  intro x2 s0 σ
  unfold X12_token_208
  refine JO_putI (pc := 208) fl_X12_199 rfl fkX12_sort dX12_token_208 (fun σ27 => ?_)
  refine JO_goto (pc := 211) (tgt := 232) dX12_token_211 (by decide) ?_
  exact JO_sub (l_sub_some (l_sub_none (l_sub_some (l_sub_nil)))) (hk232 x2 σ27)
set_option maxHeartbeats 4000000 in
set_option maxRecDepth 100000 in
theorem w_X12_token_180 (G : JG) (d : Nat) (k144 : Int32 → Mem → Option Mem) (hk144 : ∀ (x2 : Int32) (σ : Mem), JO G mX12_token (d + 1) 144 [some (.ref (G.1 + off 1000)), none, some (.int x2)] [] σ rV (k144 x2 σ)) : ∀ (x2 : Int32) (σ : Mem), JO G mX12_token (d + 1) 180 [some (.ref (G.1 + off 1000)), none, some (.int x2)] [] σ rV (X12_token_180 k144 x2 σ) := by
  intro x2 σ
  unfold X12_token_180
  refine JO_inc (pc := 180) (b := 1) (L' := fun v28 => [some (.ref (G.1 + off 1000)), none, some (.int v28)]) dX12_token_180 rfl rfl (by decide) rfl (fun _ => rfl) (fun v28 => ?_)
  refine JO_goto (pc := 183) (tgt := 144) dX12_token_183 (by decide) ?_
  exact JO_sub (l_sub_some (l_sub_none (l_sub_some (l_sub_nil)))) (hk144 v28 σ)
set_option maxHeartbeats 4000000 in
set_option maxRecDepth 100000 in
theorem w_X12_token_229 (G : JG) (d : Nat) (k232 : Int32 → Mem → Option Mem) (hk232 : ∀ (x2 : Int32) (σ : Mem), JO G mX12_token (d + 1) 232 [some (.ref (G.1 + off 1000)), none, some (.int x2)] [] σ rV (k232 x2 σ)) : ∀ (x2 : Int32) (s0 : Int32) (σ : Mem), JO G mX12_token (d + 1) 229 [some (.ref (G.1 + off 1000)), none, some (.int x2)] [.int s0, .ref (G.1 + off 1000)] σ rV (X12_token_229 k232 x2 s0 σ) := by
  intro x2 s0 σ
  unfold X12_token_229
  refine JO_putI (pc := 229) fl_X12_199 rfl fkX12_sort dX12_token_229 (fun σ15 => ?_)
  exact JO_sub (l_sub_some (l_sub_none (l_sub_some (l_sub_nil)))) (hk232 x2 σ15)
set_option maxHeartbeats 4000000 in
set_option maxRecDepth 100000 in
theorem w_X12_token_131 (G : JG) (d : Nat) (k232 : Int32 → Mem → Option Mem) (hk232 : ∀ (x2 : Int32) (σ : Mem), JO G mX12_token (d + 1) 232 [some (.ref (G.1 + off 1000)), none, some (.int x2)] [] σ rV (k232 x2 σ)) : ∀ (x2 : Int32) (s0 : Int32) (σ : Mem), JO G mX12_token (d + 1) 131 [some (.ref (G.1 + off 1000)), none, some (.int x2)] [.int s0, .ref (G.1 + off 1000)] σ rV (X12_token_131 k232 x2 s0 σ) := by
  intro x2 s0 σ
  unfold X12_token_131
  refine JO_putI (pc := 131) fl_X12_199 rfl fkX12_sort dX12_token_131 (fun σ29 => ?_)
  refine JO_goto (pc := 134) (tgt := 232) dX12_token_134 (by decide) ?_
  exact JO_sub (l_sub_some (l_sub_none (l_sub_some (l_sub_nil)))) (hk232 x2 σ29)
set_option maxHeartbeats 4000000 in
set_option maxRecDepth 100000 in
theorem w_X12_token_113 (G : JG) (d : Nat) (k78 : Int32 → Mem → Option Mem) (hk78 : ∀ (x2 : Int32) (σ : Mem), JO G mX12_token (d + 1) 78 [some (.ref (G.1 + off 1000)), none, some (.int x2)] [] σ rV (k78 x2 σ)) : ∀ (x2 : Int32) (σ : Mem), JO G mX12_token (d + 1) 113 [some (.ref (G.1 + off 1000)), none, some (.int x2)] [] σ rV (X12_token_113 k78 x2 σ) := by
  intro x2 σ
  unfold X12_token_113
  refine JO_inc (pc := 113) (b := 1) (L' := fun v30 => [some (.ref (G.1 + off 1000)), none, some (.int v30)]) dX12_token_113 rfl rfl (by decide) rfl (fun _ => rfl) (fun v30 => ?_)
  refine JO_goto (pc := 116) (tgt := 78) dX12_token_116 (by decide) ?_
  exact JO_sub (l_sub_some (l_sub_none (l_sub_some (l_sub_nil)))) (hk78 v30 σ)
set_option maxHeartbeats 4000000 in
set_option maxRecDepth 100000 in
theorem w_X12_token_144 (G : JG) (d : Nat) (k232 : Int32 → Mem → Option Mem) (hk232 : ∀ (x2 : Int32) (σ : Mem), JO G mX12_token (d + 1) 232 [some (.ref (G.1 + off 1000)), none, some (.int x2)] [] σ rV (k232 x2 σ)) : ∀ (n : Nat) (x2 : Int32) (σ : Mem), JO G mX12_token (d + 1) 144 [some (.ref (G.1 + off 1000)), none, some (.int x2)] [] σ rV (X12_token_144 k232 n x2 σ) := by
  intro n
  induction n with
  | zero =>
    intro x2 σ
    exact JO_none
  | succ n ih =>
    intro x2 σ
    rw [X12_token_144]
    refine JO_aload_n (pc := 144) dX12_token_144 rfl ?_
    refine JO_iload_n (pc := 145) dX12_token_145 rfl ?_
    refine JO_callVi (pc := 146) [.int x2] lk_X12_185 rfl (ci := 12) rfl shX12 (w_X12_here G d x2 σ) rfl rfl (Nat.le_of_ble_eq_true rfl) dX12_token_146 (fun r16 => ?_)
    refine JO_callSi (pc := 149) [.int r16.1] lk_X12_206 rfl (w_X12_isDigit G d r16.1 r16.2) rfl rfl (Nat.le_of_ble_eq_true rfl) dX12_token_149 (fun r17 => ?_)
    refine JO_if_eq (pc := 152) (tgt := 186) dX12_token_152 (by decide) ?_ ?_
    · refine JO_aload_n (pc := 186) dX12_token_186 rfl ?_
      refine JO_iload_n (pc := 187) dX12_token_187 rfl ?_
      refine JO_iconst (pc := 188) (a := 4) dX12_token_188 (by decide) ?_
      refine JO_icmp_gt (pc := 189) (tgt := 203) dX12_token_189 (by decide) ?_ ?_
      · exact JO_sub (l_sub_some (l_sub_none (l_sub_some (l_sub_nil)))) (w_X12_token_203 G d _ (w_X12_token_208 G d _ (hk232)) x2 r17.2)
      · refine JO_aload_n (pc := 192) dX12_token_192 rfl ?_
        refine JO_iload_n (pc := 193) dX12_token_193 rfl ?_
        refine JO_callVi (pc := 194) [.int x2] lk_X12_185 rfl (ci := 12) rfl shX12 (w_X12_here G d x2 r17.2) rfl rfl (Nat.le_of_ble_eq_true rfl) dX12_token_194 (fun r18 => ?_)
        refine JO_callSi (pc := 197) [.int r18.1] lk_X12_202 rfl (w_X12_isLetter G d r18.1 r18.2) rfl rfl (Nat.le_of_ble_eq_true rfl) dX12_token_197 (fun r19 => ?_)
        refine JO_if_eq (pc := 200) (tgt := 207) dX12_token_200 (by decide) ?_ ?_
        · refine JO_iconst (pc := 207) (a := 2) dX12_token_207 (by decide) ?_
          exact JO_sub (l_sub_some (l_sub_none (l_sub_some (l_sub_nil)))) (w_X12_token_208 G d _ (hk232) x2 2 r19.2)
        · exact JO_sub (l_sub_some (l_sub_none (l_sub_some (l_sub_nil)))) (w_X12_token_203 G d _ (w_X12_token_208 G d _ (hk232)) x2 r19.2)
    · refine JO_iload_n (pc := 155) dX12_token_155 rfl ?_
      refine JO_iconst (pc := 156) (a := 4) dX12_token_156 (by decide) ?_
      refine JO_icmp_ge (pc := 157) (tgt := 180) dX12_token_157 (by decide) ?_ ?_
      · exact JO_sub (l_sub_some (l_sub_none (l_sub_some (l_sub_nil)))) (w_X12_token_180 G d _ (ih) x2 r17.2)
      · refine JO_aload_n (pc := 160) dX12_token_160 rfl ?_
        refine JO_bipush (pc := 161) (a := 10) dX12_token_161 (by decide) ?_
        refine JO_aload_n (pc := 163) dX12_token_163 rfl ?_
        refine JO_getI (pc := 164) fl_X12_196 rfl fkX12_number dX12_token_164 ?_
        refine JO_imul (pc := 167) dX12_token_167 ?_
        refine JO_aload_n (pc := 168) dX12_token_168 rfl ?_
        refine JO_iload_n (pc := 169) dX12_token_169 rfl ?_
        refine JO_callVi (pc := 170) [.int x2] lk_X12_185 rfl (ci := 12) rfl shX12 (w_X12_here G d x2 r17.2) rfl rfl (Nat.le_of_ble_eq_true rfl) dX12_token_170 (fun r20 => ?_)
        refine JO_iadd (pc := 173) dX12_token_173 ?_
        refine JO_bipush (pc := 174) (a := 48) dX12_token_174 (by decide) ?_
        refine JO_isub (pc := 176) dX12_token_176 ?_
        refine JO_putI (pc := 177) fl_X12_196 rfl fkX12_number dX12_token_177 (fun σ21 => ?_)
        exact JO_sub (l_sub_some (l_sub_none (l_sub_some (l_sub_nil)))) (w_X12_token_180 G d _ (ih) x2 σ21)
set_option maxHeartbeats 4000000 in
set_option maxRecDepth 100000 in
theorem w_X12_token_78 (G : JG) (d : Nat) (k232 : Int32 → Mem → Option Mem) (hk232 : ∀ (x2 : Int32) (σ : Mem), JO G mX12_token (d + 1) 232 [some (.ref (G.1 + off 1000)), none, some (.int x2)] [] σ rV (k232 x2 σ)) : ∀ (n : Nat) (x2 : Int32) (σ : Mem), JO G mX12_token (d + 1) 78 [some (.ref (G.1 + off 1000)), none, some (.int x2)] [] σ rV (X12_token_78 k232 n x2 σ) := by
  intro n
  induction n with
  | zero =>
    intro x2 σ
    exact JO_none
  | succ n ih =>
    intro x2 σ
    rw [X12_token_78]
    refine JO_aload_n (pc := 78) dX12_token_78 rfl ?_
    refine JO_iload_n (pc := 79) dX12_token_79 rfl ?_
    refine JO_callVi (pc := 80) [.int x2] lk_X12_185 rfl (ci := 12) rfl shX12 (w_X12_here G d x2 σ) rfl rfl (Nat.le_of_ble_eq_true rfl) dX12_token_80 (fun r22 => ?_)
    refine JO_callSi (pc := 83) [.int r22.1] lk_X12_202 rfl (w_X12_isLetter G d r22.1 r22.2) rfl rfl (Nat.le_of_ble_eq_true rfl) dX12_token_83 (fun r23 => ?_)
    refine JO_if_eq (pc := 86) (tgt := 119) dX12_token_86 (by decide) ?_ ?_
    · refine JO_aload_n (pc := 119) dX12_token_119 rfl ?_
      refine JO_iload_n (pc := 120) dX12_token_120 rfl ?_
      refine JO_bipush (pc := 121) (a := 8) dX12_token_121 (by decide) ?_
      refine JO_icmp_le (pc := 123) (tgt := 130) dX12_token_123 (by decide) ?_ ?_
      · refine JO_iconst (pc := 130) (a := 1) dX12_token_130 (by decide) ?_
        exact JO_sub (l_sub_some (l_sub_none (l_sub_some (l_sub_nil)))) (w_X12_token_131 G d _ (hk232) x2 1 r23.2)
      · refine JO_iconst (pc := 126) (a := 3) dX12_token_126 (by decide) ?_
        refine JO_goto (pc := 127) (tgt := 131) dX12_token_127 (by decide) ?_
        exact JO_sub (l_sub_some (l_sub_none (l_sub_some (l_sub_nil)))) (w_X12_token_131 G d _ (hk232) x2 3 r23.2)
    · refine JO_iload_n (pc := 89) dX12_token_89 rfl ?_
      refine JO_bipush (pc := 90) (a := 8) dX12_token_90 (by decide) ?_
      refine JO_icmp_ge (pc := 92) (tgt := 113) dX12_token_92 (by decide) ?_ ?_
      · exact JO_sub (l_sub_some (l_sub_none (l_sub_some (l_sub_nil)))) (w_X12_token_113 G d _ (ih) x2 r23.2)
      · refine JO_aload_n (pc := 95) dX12_token_95 rfl ?_
        refine JO_aload_n (pc := 96) dX12_token_96 rfl ?_
        refine JO_getL (pc := 97) fl_X12_192 rfl fkX12_word dX12_token_97 ?_
        refine JO_bipush (pc := 100) (a := 8) dX12_token_100 (by decide) ?_
        refine JO_lshl (pc := 102) dX12_token_102 ?_
        refine JO_aload_n (pc := 103) dX12_token_103 rfl ?_
        refine JO_iload_n (pc := 104) dX12_token_104 rfl ?_
        refine JO_callVi (pc := 105) [.int x2] lk_X12_185 rfl (ci := 12) rfl shX12 (w_X12_here G d x2 r23.2) rfl rfl (Nat.le_of_ble_eq_true rfl) dX12_token_105 (fun r24 => ?_)
        refine JO_i2l (pc := 108) dX12_token_108 ?_
        refine JO_lor (pc := 109) dX12_token_109 ?_
        refine JO_putL (pc := 110) fl_X12_192 rfl fkX12_word dX12_token_110 (fun σ25 => ?_)
        exact JO_sub (l_sub_some (l_sub_none (l_sub_some (l_sub_nil)))) (w_X12_token_113 G d _ (ih) x2 σ25)
set_option maxHeartbeats 4000000 in
set_option maxRecDepth 100000 in
theorem w_X12_token_232 (G : JG) (d : Nat) : ∀ (x2 : Int32) (σ : Mem), JO G mX12_token (d + 1) 232 [some (.ref (G.1 + off 1000)), none, some (.int x2)] [] σ rV (X12_token_232 x2 σ) := by
  intro x2 σ
  unfold X12_token_232
  refine JO_aload_n (pc := 232) dX12_token_232 rfl ?_
  refine JO_getI (pc := 233) fl_X12_199 rfl fkX12_sort dX12_token_233 ?_
  refine JO_iconst (pc := 236) (a := 3) dX12_token_236 (by decide) ?_
  refine JO_icmp_eq (pc := 237) (tgt := 250) dX12_token_237 (by decide) ?_ ?_
  · exact JO_retv (pc := 250) rfl dX12_token_250
  · refine JO_aload_n (pc := 240) dX12_token_240 rfl ?_
    refine JO_dup (pc := 241) dX12_token_241 rfl ?_
    refine JO_getI (pc := 242) fl_X12_179 rfl fkX12_at dX12_token_242 ?_
    refine JO_iload_n (pc := 245) dX12_token_245 rfl ?_
    refine JO_iadd (pc := 246) dX12_token_246 ?_
    refine JO_putI (pc := 247) fl_X12_179 rfl fkX12_at dX12_token_247 (fun σ26 => ?_)
    exact JO_retv (pc := 250) rfl dX12_token_250
set_option maxHeartbeats 4000000 in
set_option maxRecDepth 100000 in
theorem w_X12_token_20 (G : JG) (d : Nat) (k0 : Mem → Option Mem) (hk0 : ∀ (σ : Mem), JO G mX12_token (d + 1) 0 [some (.ref (G.1 + off 1000)), none, none] [] σ rV (k0 σ)) : ∀ (σ : Mem), JO G mX12_token (d + 1) 20 [some (.ref (G.1 + off 1000)), none, none] [] σ rV (X12_token_20 k0 σ) := by
  intro σ
  unfold X12_token_20
  refine JO_aload_n (pc := 20) dX12_token_20 rfl ?_
  refine JO_dup (pc := 21) dX12_token_21 rfl ?_
  refine JO_getI (pc := 22) fl_X12_179 rfl fkX12_at dX12_token_22 ?_
  refine JO_iconst (pc := 25) (a := 1) dX12_token_25 (by decide) ?_
  refine JO_iadd (pc := 26) dX12_token_26 ?_
  refine JO_putI (pc := 27) fl_X12_179 rfl fkX12_at dX12_token_27 (fun σ14 => ?_)
  refine JO_goto (pc := 30) (tgt := 0) dX12_token_30 (by decide) ?_
  exact JO_sub (l_sub_some (l_sub_none (l_sub_none (l_sub_nil)))) (hk0  σ14)
set_option maxHeartbeats 4000000 in
set_option maxRecDepth 100000 in
theorem w_X12_token_0 (G : JG) (d : Nat) : ∀ (n : Nat) (σ : Mem), JO G mX12_token (d + 1) 0 [some (.ref (G.1 + off 1000)), none, none] [] σ rV (X12_token_0 n σ) := by
  intro n
  induction n with
  | zero =>
    intro σ
    exact JO_none
  | succ n ih =>
    intro σ
    rw [X12_token_0]
    refine JO_aload_n (pc := 0) dX12_token_0 rfl ?_
    refine JO_iconst (pc := 1) (a := 0) dX12_token_1 (by decide) ?_
    refine JO_callVi (pc := 2) [.int 0] lk_X12_185 rfl (ci := 12) rfl shX12 (w_X12_here G d 0 σ) rfl rfl (Nat.le_of_ble_eq_true rfl) dX12_token_2 (fun r1 => ?_)
    refine JO_bipush (pc := 5) (a := 32) dX12_token_5 (by decide) ?_
    refine JO_icmp_eq (pc := 7) (tgt := 20) dX12_token_7 (by decide) ?_ ?_
    · exact JO_sub (l_sub_some (l_sub_none (l_sub_none (l_sub_nil)))) (w_X12_token_20 G d _ (ih)  r1.2)
    · refine JO_aload_n (pc := 10) dX12_token_10 rfl ?_
      refine JO_iconst (pc := 11) (a := 0) dX12_token_11 (by decide) ?_
      refine JO_callVi (pc := 12) [.int 0] lk_X12_185 rfl (ci := 12) rfl shX12 (w_X12_here G d 0 r1.2) rfl rfl (Nat.le_of_ble_eq_true rfl) dX12_token_12 (fun r2 => ?_)
      refine JO_bipush (pc := 15) (a := 10) dX12_token_15 (by decide) ?_
      refine JO_icmp_ne (pc := 17) (tgt := 33) dX12_token_17 (by decide) ?_ ?_
      · refine JO_aload_n (pc := 33) dX12_token_33 rfl ?_
        refine JO_aload_n (pc := 34) dX12_token_34 rfl ?_
        refine JO_getI (pc := 35) fl_X12_179 rfl fkX12_at dX12_token_35 ?_
        refine JO_putI (pc := 38) fl_X12_189 rfl fkX12_place dX12_token_38 (fun σ3 => ?_)
        refine JO_aload_n (pc := 41) dX12_token_41 rfl ?_
        refine JO_iconst (pc := 42) (a := 0) dX12_token_42 (by decide) ?_
        refine JO_callVi (pc := 43) [.int 0] lk_X12_185 rfl (ci := 12) rfl shX12 (w_X12_here G d 0 σ3) rfl rfl (Nat.le_of_ble_eq_true rfl) dX12_token_43 (fun r4 => ?_)
        refine JO_nm (fun v5 => ?_)
        refine JO_istore_n (pc := 46) (L' := [some (.ref (G.1 + off 1000)), some (.int v5), none]) dX12_token_46 rfl rfl rfl ?_
        refine JO_iconst (pc := 47) (a := 0) dX12_token_47 (by decide) ?_
        refine JO_nm (fun v6 => ?_)
        refine JO_istore_n (pc := 48) (L' := [some (.ref (G.1 + off 1000)), some (.int v5), some (.int v6)]) dX12_token_48 rfl rfl rfl ?_
        refine JO_aload_n (pc := 49) dX12_token_49 rfl ?_
        refine JO_lconst (pc := 50) (a := 0) dX12_token_50 (by decide) ?_
        refine JO_putL (pc := 51) fl_X12_192 rfl fkX12_word dX12_token_51 (fun σ7 => ?_)
        refine JO_aload_n (pc := 54) dX12_token_54 rfl ?_
        refine JO_iconst (pc := 55) (a := 0) dX12_token_55 (by decide) ?_
        refine JO_putI (pc := 56) fl_X12_196 rfl fkX12_number dX12_token_56 (fun σ8 => ?_)
        refine JO_iload_n (pc := 59) dX12_token_59 rfl ?_
        refine JO_if_ge (pc := 60) (tgt := 71) dX12_token_60 (by decide) ?_ ?_
        · refine JO_iload_n (pc := 71) dX12_token_71 rfl ?_
          refine JO_callSi (pc := 72) [.int v5] lk_X12_202 rfl (w_X12_isLetter G d v5 σ8) rfl rfl (Nat.le_of_ble_eq_true rfl) dX12_token_72 (fun r9 => ?_)
          refine JO_if_eq (pc := 75) (tgt := 137) dX12_token_75 (by decide) ?_ ?_
          · refine JO_iload_n (pc := 137) dX12_token_137 rfl ?_
            refine JO_callSi (pc := 138) [.int v5] lk_X12_206 rfl (w_X12_isDigit G d v5 r9.2) rfl rfl (Nat.le_of_ble_eq_true rfl) dX12_token_138 (fun r10 => ?_)
            refine JO_if_eq (pc := 141) (tgt := 214) dX12_token_141 (by decide) ?_ ?_
            · refine JO_iconst (pc := 214) (a := 1) dX12_token_214 (by decide) ?_
              refine JO_nm (fun v11 => ?_)
              refine JO_istore_n (pc := 215) (L' := [some (.ref (G.1 + off 1000)), some (.int v5), some (.int v11)]) dX12_token_215 rfl rfl rfl ?_
              refine JO_aload_n (pc := 216) dX12_token_216 rfl ?_
              refine JO_iload_n (pc := 217) dX12_token_217 rfl ?_
              refine JO_callSi (pc := 218) [.int v5] lk_X12_209 rfl (w_X12_isSign G d v5 r10.2) rfl rfl (Nat.le_of_ble_eq_true rfl) dX12_token_218 (fun r12 => ?_)
              refine JO_if_eq (pc := 221) (tgt := 228) dX12_token_221 (by decide) ?_ ?_
              · refine JO_iconst (pc := 228) (a := 3) dX12_token_228 (by decide) ?_
                exact JO_sub (l_sub_some (l_sub_none (l_sub_some (l_sub_nil)))) (w_X12_token_229 G d _ (w_X12_token_232 G d) v11 3 r12.2)
              · refine JO_iload_n (pc := 224) dX12_token_224 rfl ?_
                refine JO_goto (pc := 225) (tgt := 229) dX12_token_225 (by decide) ?_
                exact JO_sub (l_sub_some (l_sub_none (l_sub_some (l_sub_nil)))) (w_X12_token_229 G d _ (w_X12_token_232 G d) v11 v5 r12.2)
            · exact JO_sub (l_sub_some (l_sub_none (l_sub_some (l_sub_nil)))) (w_X12_token_144 G d _ (w_X12_token_232 G d) fu v6 r10.2)
          · exact JO_sub (l_sub_some (l_sub_none (l_sub_some (l_sub_nil)))) (w_X12_token_78 G d _ (w_X12_token_232 G d) fu v6 r9.2)
        · refine JO_aload_n (pc := 63) dX12_token_63 rfl ?_
          refine JO_iconst (pc := 64) (a := 0) dX12_token_64 (by decide) ?_
          refine JO_putI (pc := 65) fl_X12_199 rfl fkX12_sort dX12_token_65 (fun σ13 => ?_)
          refine JO_goto (pc := 68) (tgt := 232) dX12_token_68 (by decide) ?_
          exact JO_sub (l_sub_some (l_sub_none (l_sub_some (l_sub_nil)))) (w_X12_token_232 G d v6 σ13)
      · exact JO_sub (l_sub_some (l_sub_none (l_sub_none (l_sub_nil)))) (w_X12_token_20 G d _ (ih)  r2.2)
set_option maxHeartbeats 4000000 in
set_option maxRecDepth 100000 in
theorem w_X12_token (G : JG) (d : Nat) (σ : Mem) : JS G mX12_token (d + 1) [.ref (G.1 + off 1000)] σ rV (X12_token σ) := by
  refine JS_of 2 (by decide +kernel) (Nat.le_of_ble_eq_true rfl) (L := [some (.ref (G.1 + off 1000)), none, none]) rfl ?_
  unfold X12_token
  exact JO_sub (l_sub_some (l_sub_none (l_sub_none (l_sub_nil)))) (w_X12_token_0 G d fu  σ)
set_option maxHeartbeats 4000000 in
set_option maxRecDepth 100000 in
theorem w_X12_wrong_22 (G : JG) (d : Nat) : ∀ (s0 : Int32) (σ : Mem), JO G mX12_wrong d 22 [some (.ref (G.1 + off 1000)), none] [.int s0, .ref (G.1 + off 1000)] σ rV (X12_wrong_22 s0 σ) := by
  intro s0 σ
  unfold X12_wrong_22
  refine JO_putI (pc := 22) fl_X12_212 rfl fkX12_fault dX12_wrong_22 (fun σ1 => ?_)
  refine JO_aload_n (pc := 25) dX12_wrong_25 rfl ?_
  refine JO_aload_n (pc := 26) dX12_wrong_26 rfl ?_
  refine JO_getI (pc := 27) fl_X12_189 rfl fkX12_place dX12_wrong_27 ?_
  refine JO_putI (pc := 30) fl_X12_13 rfl fkX12_faultPlace dX12_wrong_30 (fun σ2 => ?_)
  exact JO_retv (pc := 33) rfl dX12_wrong_33
set_option maxHeartbeats 4000000 in
set_option maxRecDepth 100000 in
theorem w_X12_wrong (G : JG) (d : Nat) (x1 : Int32) (σ : Mem) : JS G mX12_wrong d [.ref (G.1 + off 1000), .int x1] σ rV (X12_wrong x1 σ) := by
  refine JS_of 0 (by decide +kernel) (Nat.le_of_ble_eq_true rfl) (L := [some (.ref (G.1 + off 1000)), some (.int x1)]) rfl ?_
  unfold X12_wrong
  refine JO_aload_n (pc := 0) dX12_wrong_0 rfl ?_
  refine JO_getI (pc := 1) fl_X12_212 rfl fkX12_fault dX12_wrong_1 ?_
  refine JO_if_le (pc := 4) (tgt := 8) dX12_wrong_4 (by decide) ?_ ?_
  · refine JO_aload_n (pc := 8) dX12_wrong_8 rfl ?_
    refine JO_aload_n (pc := 9) dX12_wrong_9 rfl ?_
    refine JO_getI (pc := 10) fl_X12_199 rfl fkX12_sort dX12_wrong_10 ?_
    refine JO_iconst (pc := 13) (a := 3) dX12_wrong_13 (by decide) ?_
    refine JO_icmp_ne (pc := 14) (tgt := 21) dX12_wrong_14 (by decide) ?_ ?_
    · refine JO_iload_n (pc := 21) dX12_wrong_21 rfl ?_
      exact JO_sub (l_sub_some (l_sub_none (l_sub_nil))) (w_X12_wrong_22 G d x1 σ)
    · refine JO_iconst (pc := 17) (a := 1) dX12_wrong_17 (by decide) ?_
      refine JO_goto (pc := 18) (tgt := 22) dX12_wrong_18 (by decide) ?_
      exact JO_sub (l_sub_some (l_sub_none (l_sub_nil))) (w_X12_wrong_22 G d 1 σ)
  · exact JO_retv (pc := 7) rfl dX12_wrong_7
set_option maxHeartbeats 4000000 in
set_option maxRecDepth 100000 in
theorem w_X12_isWord (G : JG) (d : Nat) (x1 : Int64) (σ : Mem) : JS G mX12_isWord d [.ref (G.1 + off 1000), .long x1] σ rI (X12_isWord x1 σ) := by
  refine JS_of 0 (by decide +kernel) (Nat.le_of_ble_eq_true rfl) (L := [some (.ref (G.1 + off 1000)), some (.long x1), none]) rfl ?_
  unfold X12_isWord
  refine JO_aload_n (pc := 0) dX12_isWord_0 rfl ?_
  refine JO_getI (pc := 1) fl_X12_199 rfl fkX12_sort dX12_isWord_1 ?_
  refine JO_iconst (pc := 4) (a := 1) dX12_isWord_4 (by decide) ?_
  refine JO_icmp_ne (pc := 5) (tgt := 21) dX12_isWord_5 (by decide) ?_ ?_
  · refine JO_iconst (pc := 21) (a := 0) dX12_isWord_21 (by decide) ?_
    exact JO_retzc (pc := 22) (by decide) rfl dX12_isWord_22
  · refine JO_aload_n (pc := 8) dX12_isWord_8 rfl ?_
    refine JO_getL (pc := 9) fl_X12_192 rfl fkX12_word dX12_isWord_9 ?_
    refine JO_lload_n (pc := 12) dX12_isWord_12 rfl ?_
    refine JO_lcmp (pc := 13) dX12_isWord_13 ?_
    refine JO_if_ne (pc := 14) (tgt := 21) dX12_isWord_14 (by decide) ?_ ?_
    · refine JO_iconst (pc := 21) (a := 0) dX12_isWord_21 (by decide) ?_
      exact JO_retzc (pc := 22) (by decide) rfl dX12_isWord_22
    · refine JO_iconst (pc := 17) (a := 1) dX12_isWord_17 (by decide) ?_
      refine JO_goto (pc := 18) (tgt := 22) dX12_isWord_18 (by decide) ?_
      exact JO_retzc (pc := 22) (by decide) rfl dX12_isWord_22
set_option maxHeartbeats 4000000 in
set_option maxRecDepth 100000 in
theorem w_X12_isOwn (G : JG) (d : Nat) (σ : Mem) : JS G mX12_isOwn d [.ref (G.1 + off 1000)] σ rI (X12_isOwn σ) := by
  refine JS_of 0 (by decide +kernel) (Nat.le_of_ble_eq_true rfl) (L := [some (.ref (G.1 + off 1000))]) rfl ?_
  unfold X12_isOwn
  refine JO_aload_n (pc := 0) dX12_isOwn_0 rfl ?_
  refine JO_getL (pc := 1) fl_X12_192 rfl fkX12_word dX12_isOwn_1 ?_
  refine JO_ldc2 (pc := 4) kc_X12_215 rfl dX12_isOwn_4 ?_
  refine JO_lcmp (pc := 7) dX12_isOwn_7 ?_
  refine JO_if_eq (pc := 8) (tgt := 253) dX12_isOwn_8 (by decide) ?_ ?_
  · refine JO_iconst (pc := 253) (a := 1) dX12_isOwn_253 (by decide) ?_
    refine JO_goto (pc := 254) (tgt := 258) dX12_isOwn_254 (by decide) ?_
    exact JO_retzc (pc := 258) (by decide) rfl dX12_isOwn_258
  · refine JO_aload_n (pc := 11) dX12_isOwn_11 rfl ?_
    refine JO_getL (pc := 12) fl_X12_192 rfl fkX12_word dX12_isOwn_12 ?_
    refine JO_ldc2 (pc := 15) kc_X12_217 rfl dX12_isOwn_15 ?_
    refine JO_lcmp (pc := 18) dX12_isOwn_18 ?_
    refine JO_if_eq (pc := 19) (tgt := 253) dX12_isOwn_19 (by decide) ?_ ?_
    · refine JO_iconst (pc := 253) (a := 1) dX12_isOwn_253 (by decide) ?_
      refine JO_goto (pc := 254) (tgt := 258) dX12_isOwn_254 (by decide) ?_
      exact JO_retzc (pc := 258) (by decide) rfl dX12_isOwn_258
    · refine JO_aload_n (pc := 22) dX12_isOwn_22 rfl ?_
      refine JO_getL (pc := 23) fl_X12_192 rfl fkX12_word dX12_isOwn_23 ?_
      refine JO_ldc2 (pc := 26) kc_X12_219 rfl dX12_isOwn_26 ?_
      refine JO_lcmp (pc := 29) dX12_isOwn_29 ?_
      refine JO_if_eq (pc := 30) (tgt := 253) dX12_isOwn_30 (by decide) ?_ ?_
      · refine JO_iconst (pc := 253) (a := 1) dX12_isOwn_253 (by decide) ?_
        refine JO_goto (pc := 254) (tgt := 258) dX12_isOwn_254 (by decide) ?_
        exact JO_retzc (pc := 258) (by decide) rfl dX12_isOwn_258
      · refine JO_aload_n (pc := 33) dX12_isOwn_33 rfl ?_
        refine JO_getL (pc := 34) fl_X12_192 rfl fkX12_word dX12_isOwn_34 ?_
        refine JO_ldc2 (pc := 37) kc_X12_221 rfl dX12_isOwn_37 ?_
        refine JO_lcmp (pc := 40) dX12_isOwn_40 ?_
        refine JO_if_eq (pc := 41) (tgt := 253) dX12_isOwn_41 (by decide) ?_ ?_
        · refine JO_iconst (pc := 253) (a := 1) dX12_isOwn_253 (by decide) ?_
          refine JO_goto (pc := 254) (tgt := 258) dX12_isOwn_254 (by decide) ?_
          exact JO_retzc (pc := 258) (by decide) rfl dX12_isOwn_258
        · refine JO_aload_n (pc := 44) dX12_isOwn_44 rfl ?_
          refine JO_getL (pc := 45) fl_X12_192 rfl fkX12_word dX12_isOwn_45 ?_
          refine JO_ldc2 (pc := 48) kc_X12_223 rfl dX12_isOwn_48 ?_
          refine JO_lcmp (pc := 51) dX12_isOwn_51 ?_
          refine JO_if_eq (pc := 52) (tgt := 253) dX12_isOwn_52 (by decide) ?_ ?_
          · refine JO_iconst (pc := 253) (a := 1) dX12_isOwn_253 (by decide) ?_
            refine JO_goto (pc := 254) (tgt := 258) dX12_isOwn_254 (by decide) ?_
            exact JO_retzc (pc := 258) (by decide) rfl dX12_isOwn_258
          · refine JO_aload_n (pc := 55) dX12_isOwn_55 rfl ?_
            refine JO_getL (pc := 56) fl_X12_192 rfl fkX12_word dX12_isOwn_56 ?_
            refine JO_ldc2 (pc := 59) kc_X12_225 rfl dX12_isOwn_59 ?_
            refine JO_lcmp (pc := 62) dX12_isOwn_62 ?_
            refine JO_if_eq (pc := 63) (tgt := 253) dX12_isOwn_63 (by decide) ?_ ?_
            · refine JO_iconst (pc := 253) (a := 1) dX12_isOwn_253 (by decide) ?_
              refine JO_goto (pc := 254) (tgt := 258) dX12_isOwn_254 (by decide) ?_
              exact JO_retzc (pc := 258) (by decide) rfl dX12_isOwn_258
            · refine JO_aload_n (pc := 66) dX12_isOwn_66 rfl ?_
              refine JO_getL (pc := 67) fl_X12_192 rfl fkX12_word dX12_isOwn_67 ?_
              refine JO_ldc2 (pc := 70) kc_X12_227 rfl dX12_isOwn_70 ?_
              refine JO_lcmp (pc := 73) dX12_isOwn_73 ?_
              refine JO_if_eq (pc := 74) (tgt := 253) dX12_isOwn_74 (by decide) ?_ ?_
              · refine JO_iconst (pc := 253) (a := 1) dX12_isOwn_253 (by decide) ?_
                refine JO_goto (pc := 254) (tgt := 258) dX12_isOwn_254 (by decide) ?_
                exact JO_retzc (pc := 258) (by decide) rfl dX12_isOwn_258
              · refine JO_aload_n (pc := 77) dX12_isOwn_77 rfl ?_
                refine JO_getL (pc := 78) fl_X12_192 rfl fkX12_word dX12_isOwn_78 ?_
                refine JO_ldc2 (pc := 81) kc_X12_229 rfl dX12_isOwn_81 ?_
                refine JO_lcmp (pc := 84) dX12_isOwn_84 ?_
                refine JO_if_eq (pc := 85) (tgt := 253) dX12_isOwn_85 (by decide) ?_ ?_
                · refine JO_iconst (pc := 253) (a := 1) dX12_isOwn_253 (by decide) ?_
                  refine JO_goto (pc := 254) (tgt := 258) dX12_isOwn_254 (by decide) ?_
                  exact JO_retzc (pc := 258) (by decide) rfl dX12_isOwn_258
                · refine JO_aload_n (pc := 88) dX12_isOwn_88 rfl ?_
                  refine JO_getL (pc := 89) fl_X12_192 rfl fkX12_word dX12_isOwn_89 ?_
                  refine JO_ldc2 (pc := 92) kc_X12_231 rfl dX12_isOwn_92 ?_
                  refine JO_lcmp (pc := 95) dX12_isOwn_95 ?_
                  refine JO_if_eq (pc := 96) (tgt := 253) dX12_isOwn_96 (by decide) ?_ ?_
                  · refine JO_iconst (pc := 253) (a := 1) dX12_isOwn_253 (by decide) ?_
                    refine JO_goto (pc := 254) (tgt := 258) dX12_isOwn_254 (by decide) ?_
                    exact JO_retzc (pc := 258) (by decide) rfl dX12_isOwn_258
                  · refine JO_aload_n (pc := 99) dX12_isOwn_99 rfl ?_
                    refine JO_getL (pc := 100) fl_X12_192 rfl fkX12_word dX12_isOwn_100 ?_
                    refine JO_ldc2 (pc := 103) kc_X12_233 rfl dX12_isOwn_103 ?_
                    refine JO_lcmp (pc := 106) dX12_isOwn_106 ?_
                    refine JO_if_eq (pc := 107) (tgt := 253) dX12_isOwn_107 (by decide) ?_ ?_
                    · refine JO_iconst (pc := 253) (a := 1) dX12_isOwn_253 (by decide) ?_
                      refine JO_goto (pc := 254) (tgt := 258) dX12_isOwn_254 (by decide) ?_
                      exact JO_retzc (pc := 258) (by decide) rfl dX12_isOwn_258
                    · refine JO_aload_n (pc := 110) dX12_isOwn_110 rfl ?_
                      refine JO_getL (pc := 111) fl_X12_192 rfl fkX12_word dX12_isOwn_111 ?_
                      refine JO_ldc2 (pc := 114) kc_X12_235 rfl dX12_isOwn_114 ?_
                      refine JO_lcmp (pc := 117) dX12_isOwn_117 ?_
                      refine JO_if_eq (pc := 118) (tgt := 253) dX12_isOwn_118 (by decide) ?_ ?_
                      · refine JO_iconst (pc := 253) (a := 1) dX12_isOwn_253 (by decide) ?_
                        refine JO_goto (pc := 254) (tgt := 258) dX12_isOwn_254 (by decide) ?_
                        exact JO_retzc (pc := 258) (by decide) rfl dX12_isOwn_258
                      · refine JO_aload_n (pc := 121) dX12_isOwn_121 rfl ?_
                        refine JO_getL (pc := 122) fl_X12_192 rfl fkX12_word dX12_isOwn_122 ?_
                        refine JO_ldc2 (pc := 125) kc_X12_237 rfl dX12_isOwn_125 ?_
                        refine JO_lcmp (pc := 128) dX12_isOwn_128 ?_
                        refine JO_if_eq (pc := 129) (tgt := 253) dX12_isOwn_129 (by decide) ?_ ?_
                        · refine JO_iconst (pc := 253) (a := 1) dX12_isOwn_253 (by decide) ?_
                          refine JO_goto (pc := 254) (tgt := 258) dX12_isOwn_254 (by decide) ?_
                          exact JO_retzc (pc := 258) (by decide) rfl dX12_isOwn_258
                        · refine JO_aload_n (pc := 132) dX12_isOwn_132 rfl ?_
                          refine JO_getL (pc := 133) fl_X12_192 rfl fkX12_word dX12_isOwn_133 ?_
                          refine JO_ldc2 (pc := 136) kc_X12_239 rfl dX12_isOwn_136 ?_
                          refine JO_lcmp (pc := 139) dX12_isOwn_139 ?_
                          refine JO_if_eq (pc := 140) (tgt := 253) dX12_isOwn_140 (by decide) ?_ ?_
                          · refine JO_iconst (pc := 253) (a := 1) dX12_isOwn_253 (by decide) ?_
                            refine JO_goto (pc := 254) (tgt := 258) dX12_isOwn_254 (by decide) ?_
                            exact JO_retzc (pc := 258) (by decide) rfl dX12_isOwn_258
                          · refine JO_aload_n (pc := 143) dX12_isOwn_143 rfl ?_
                            refine JO_getL (pc := 144) fl_X12_192 rfl fkX12_word dX12_isOwn_144 ?_
                            refine JO_ldc2 (pc := 147) kc_X12_241 rfl dX12_isOwn_147 ?_
                            refine JO_lcmp (pc := 150) dX12_isOwn_150 ?_
                            refine JO_if_eq (pc := 151) (tgt := 253) dX12_isOwn_151 (by decide) ?_ ?_
                            · refine JO_iconst (pc := 253) (a := 1) dX12_isOwn_253 (by decide) ?_
                              refine JO_goto (pc := 254) (tgt := 258) dX12_isOwn_254 (by decide) ?_
                              exact JO_retzc (pc := 258) (by decide) rfl dX12_isOwn_258
                            · refine JO_aload_n (pc := 154) dX12_isOwn_154 rfl ?_
                              refine JO_getL (pc := 155) fl_X12_192 rfl fkX12_word dX12_isOwn_155 ?_
                              refine JO_ldc2 (pc := 158) kc_X12_243 rfl dX12_isOwn_158 ?_
                              refine JO_lcmp (pc := 161) dX12_isOwn_161 ?_
                              refine JO_if_eq (pc := 162) (tgt := 253) dX12_isOwn_162 (by decide) ?_ ?_
                              · refine JO_iconst (pc := 253) (a := 1) dX12_isOwn_253 (by decide) ?_
                                refine JO_goto (pc := 254) (tgt := 258) dX12_isOwn_254 (by decide) ?_
                                exact JO_retzc (pc := 258) (by decide) rfl dX12_isOwn_258
                              · refine JO_aload_n (pc := 165) dX12_isOwn_165 rfl ?_
                                refine JO_getL (pc := 166) fl_X12_192 rfl fkX12_word dX12_isOwn_166 ?_
                                refine JO_ldc2 (pc := 169) kc_X12_245 rfl dX12_isOwn_169 ?_
                                refine JO_lcmp (pc := 172) dX12_isOwn_172 ?_
                                refine JO_if_eq (pc := 173) (tgt := 253) dX12_isOwn_173 (by decide) ?_ ?_
                                · refine JO_iconst (pc := 253) (a := 1) dX12_isOwn_253 (by decide) ?_
                                  refine JO_goto (pc := 254) (tgt := 258) dX12_isOwn_254 (by decide) ?_
                                  exact JO_retzc (pc := 258) (by decide) rfl dX12_isOwn_258
                                · refine JO_aload_n (pc := 176) dX12_isOwn_176 rfl ?_
                                  refine JO_getL (pc := 177) fl_X12_192 rfl fkX12_word dX12_isOwn_177 ?_
                                  refine JO_ldc2 (pc := 180) kc_X12_247 rfl dX12_isOwn_180 ?_
                                  refine JO_lcmp (pc := 183) dX12_isOwn_183 ?_
                                  refine JO_if_eq (pc := 184) (tgt := 253) dX12_isOwn_184 (by decide) ?_ ?_
                                  · refine JO_iconst (pc := 253) (a := 1) dX12_isOwn_253 (by decide) ?_
                                    refine JO_goto (pc := 254) (tgt := 258) dX12_isOwn_254 (by decide) ?_
                                    exact JO_retzc (pc := 258) (by decide) rfl dX12_isOwn_258
                                  · refine JO_aload_n (pc := 187) dX12_isOwn_187 rfl ?_
                                    refine JO_getL (pc := 188) fl_X12_192 rfl fkX12_word dX12_isOwn_188 ?_
                                    refine JO_ldc2 (pc := 191) kc_X12_249 rfl dX12_isOwn_191 ?_
                                    refine JO_lcmp (pc := 194) dX12_isOwn_194 ?_
                                    refine JO_if_eq (pc := 195) (tgt := 253) dX12_isOwn_195 (by decide) ?_ ?_
                                    · refine JO_iconst (pc := 253) (a := 1) dX12_isOwn_253 (by decide) ?_
                                      refine JO_goto (pc := 254) (tgt := 258) dX12_isOwn_254 (by decide) ?_
                                      exact JO_retzc (pc := 258) (by decide) rfl dX12_isOwn_258
                                    · refine JO_aload_n (pc := 198) dX12_isOwn_198 rfl ?_
                                      refine JO_getL (pc := 199) fl_X12_192 rfl fkX12_word dX12_isOwn_199 ?_
                                      refine JO_ldc2 (pc := 202) kc_X12_251 rfl dX12_isOwn_202 ?_
                                      refine JO_lcmp (pc := 205) dX12_isOwn_205 ?_
                                      refine JO_if_eq (pc := 206) (tgt := 253) dX12_isOwn_206 (by decide) ?_ ?_
                                      · refine JO_iconst (pc := 253) (a := 1) dX12_isOwn_253 (by decide) ?_
                                        refine JO_goto (pc := 254) (tgt := 258) dX12_isOwn_254 (by decide) ?_
                                        exact JO_retzc (pc := 258) (by decide) rfl dX12_isOwn_258
                                      · refine JO_aload_n (pc := 209) dX12_isOwn_209 rfl ?_
                                        refine JO_getL (pc := 210) fl_X12_192 rfl fkX12_word dX12_isOwn_210 ?_
                                        refine JO_ldc2 (pc := 213) kc_X12_253 rfl dX12_isOwn_213 ?_
                                        refine JO_lcmp (pc := 216) dX12_isOwn_216 ?_
                                        refine JO_if_eq (pc := 217) (tgt := 253) dX12_isOwn_217 (by decide) ?_ ?_
                                        · refine JO_iconst (pc := 253) (a := 1) dX12_isOwn_253 (by decide) ?_
                                          refine JO_goto (pc := 254) (tgt := 258) dX12_isOwn_254 (by decide) ?_
                                          exact JO_retzc (pc := 258) (by decide) rfl dX12_isOwn_258
                                        · refine JO_aload_n (pc := 220) dX12_isOwn_220 rfl ?_
                                          refine JO_getL (pc := 221) fl_X12_192 rfl fkX12_word dX12_isOwn_221 ?_
                                          refine JO_ldc2 (pc := 224) kc_X12_255 rfl dX12_isOwn_224 ?_
                                          refine JO_lcmp (pc := 227) dX12_isOwn_227 ?_
                                          refine JO_if_eq (pc := 228) (tgt := 253) dX12_isOwn_228 (by decide) ?_ ?_
                                          · refine JO_iconst (pc := 253) (a := 1) dX12_isOwn_253 (by decide) ?_
                                            refine JO_goto (pc := 254) (tgt := 258) dX12_isOwn_254 (by decide) ?_
                                            exact JO_retzc (pc := 258) (by decide) rfl dX12_isOwn_258
                                          · refine JO_aload_n (pc := 231) dX12_isOwn_231 rfl ?_
                                            refine JO_getL (pc := 232) fl_X12_192 rfl fkX12_word dX12_isOwn_232 ?_
                                            refine JO_ldc2 (pc := 235) kc_X12_257 rfl dX12_isOwn_235 ?_
                                            refine JO_lcmp (pc := 238) dX12_isOwn_238 ?_
                                            refine JO_if_eq (pc := 239) (tgt := 253) dX12_isOwn_239 (by decide) ?_ ?_
                                            · refine JO_iconst (pc := 253) (a := 1) dX12_isOwn_253 (by decide) ?_
                                              refine JO_goto (pc := 254) (tgt := 258) dX12_isOwn_254 (by decide) ?_
                                              exact JO_retzc (pc := 258) (by decide) rfl dX12_isOwn_258
                                            · refine JO_aload_n (pc := 242) dX12_isOwn_242 rfl ?_
                                              refine JO_getL (pc := 243) fl_X12_192 rfl fkX12_word dX12_isOwn_243 ?_
                                              refine JO_ldc2 (pc := 246) kc_X12_259 rfl dX12_isOwn_246 ?_
                                              refine JO_lcmp (pc := 249) dX12_isOwn_249 ?_
                                              refine JO_if_ne (pc := 250) (tgt := 257) dX12_isOwn_250 (by decide) ?_ ?_
                                              · refine JO_iconst (pc := 257) (a := 0) dX12_isOwn_257 (by decide) ?_
                                                exact JO_retzc (pc := 258) (by decide) rfl dX12_isOwn_258
                                              · refine JO_iconst (pc := 253) (a := 1) dX12_isOwn_253 (by decide) ?_
                                                refine JO_goto (pc := 254) (tgt := 258) dX12_isOwn_254 (by decide) ?_
                                                exact JO_retzc (pc := 258) (by decide) rfl dX12_isOwn_258
set_option maxHeartbeats 4000000 in
set_option maxRecDepth 100000 in
theorem w_X12_isName (G : JG) (d : Nat) (σ : Mem) : JS G mX12_isName (d + 1) [.ref (G.1 + off 1000)] σ rI (X12_isName σ) := by
  refine JS_of 0 (by decide +kernel) (Nat.le_of_ble_eq_true rfl) (L := [some (.ref (G.1 + off 1000))]) rfl ?_
  unfold X12_isName
  refine JO_aload_n (pc := 0) dX12_isName_0 rfl ?_
  refine JO_getI (pc := 1) fl_X12_199 rfl fkX12_sort dX12_isName_1 ?_
  refine JO_iconst (pc := 4) (a := 1) dX12_isName_4 (by decide) ?_
  refine JO_icmp_ne (pc := 5) (tgt := 19) dX12_isName_5 (by decide) ?_ ?_
  · refine JO_iconst (pc := 19) (a := 0) dX12_isName_19 (by decide) ?_
    exact JO_retzc (pc := 20) (by decide) rfl dX12_isName_20
  · refine JO_aload_n (pc := 8) dX12_isName_8 rfl ?_
    refine JO_callVi (pc := 9) [] lk_X12_261 rfl (ci := 12) rfl shX12 (w_X12_isOwn G d  σ) rfl rfl (Nat.le_of_ble_eq_true rfl) dX12_isName_9 (fun r1 => ?_)
    refine JO_if_ne (pc := 12) (tgt := 19) dX12_isName_12 (by decide) ?_ ?_
    · refine JO_iconst (pc := 19) (a := 0) dX12_isName_19 (by decide) ?_
      exact JO_retzc (pc := 20) (by decide) rfl dX12_isName_20
    · refine JO_iconst (pc := 15) (a := 1) dX12_isName_15 (by decide) ?_
      refine JO_goto (pc := 16) (tgt := 20) dX12_isName_16 (by decide) ?_
      exact JO_retzc (pc := 20) (by decide) rfl dX12_isName_20
set_option maxHeartbeats 4000000 in
set_option maxRecDepth 100000 in
theorem w_X12_want (G : JG) (d : Nat) (x1 : Int64) (σ : Mem) : JS G mX12_want (d + 2) [.ref (G.1 + off 1000), .long x1] σ rV (X12_want x1 σ) := by
  refine JS_of 0 (by decide +kernel) (Nat.le_of_ble_eq_true rfl) (L := [some (.ref (G.1 + off 1000)), some (.long x1), none]) rfl ?_
  unfold X12_want
  refine JO_aload_n (pc := 0) dX12_want_0 rfl ?_
  refine JO_getI (pc := 1) fl_X12_212 rfl fkX12_fault dX12_want_1 ?_
  refine JO_if_le (pc := 4) (tgt := 8) dX12_want_4 (by decide) ?_ ?_
  · refine JO_aload_n (pc := 8) dX12_want_8 rfl ?_
    refine JO_lload_n (pc := 9) dX12_want_9 rfl ?_
    refine JO_callVi (pc := 10) [.long x1] lk_X12_265 rfl (ci := 12) rfl shX12 (w_X12_isWord G (d + 1) x1 σ) rfl rfl (Nat.le_of_ble_eq_true rfl) dX12_want_10 (fun r1 => ?_)
    refine JO_if_ne (pc := 13) (tgt := 24) dX12_want_13 (by decide) ?_ ?_
    · refine JO_aload_n (pc := 24) dX12_want_24 rfl ?_
      refine JO_callVv (pc := 25) [] lk_X12_272 rfl (ci := 12) rfl shX12 (w_X12_token G d  r1.2) rfl rfl (Nat.le_of_ble_eq_true rfl) dX12_want_25 (fun σ2 => ?_)
      exact JO_retv (pc := 28) rfl dX12_want_28
    · refine JO_aload_n (pc := 16) dX12_want_16 rfl ?_
      refine JO_iconst (pc := 17) (a := 2) dX12_want_17 (by decide) ?_
      refine JO_callVv (pc := 18) [.int 2] lk_X12_269 rfl (ci := 12) rfl shX12 (w_X12_wrong G (d + 1) 2 r1.2) rfl rfl (Nat.le_of_ble_eq_true rfl) dX12_want_18 (fun σ3 => ?_)
      refine JO_goto (pc := 21) (tgt := 28) dX12_want_21 (by decide) ?_
      exact JO_retv (pc := 28) rfl dX12_want_28
  · exact JO_retv (pc := 7) rfl dX12_want_7
set_option maxHeartbeats 4000000 in
set_option maxRecDepth 100000 in
theorem w_X12_toldNumber_41 (G : JG) (d : Nat) (k46 : Mem → Option (Int32 × Mem)) (hk46 : ∀ (σ : Mem), JO G mX12_toldNumber (d + 2) 46 [some (.ref (G.1 + off 1000)), none, none, none] [] σ rI (k46 σ)) : ∀ (σ : Mem), JO G mX12_toldNumber (d + 2) 41 [some (.ref (G.1 + off 1000)), none, none, none] [] σ rI (X12_toldNumber_41 k46 σ) := by
  intro σ
  unfold X12_toldNumber_41
  refine JO_aload_n (pc := 41) dX12_toldNumber_41 rfl ?_
  refine JO_iconst (pc := 42) (a := 4) dX12_toldNumber_42 (by decide) ?_
  refine JO_callVv (pc := 43) [.int 4] lk_X12_269 rfl (ci := 12) rfl shX12 (w_X12_wrong G (d + 1) 4 σ) rfl rfl (Nat.le_of_ble_eq_true rfl) dX12_toldNumber_43 (fun σ2 => ?_)
  exact JO_sub (l_sub_some (l_sub_none (l_sub_none (l_sub_none (l_sub_nil))))) (hk46  σ2)
set_option maxHeartbeats 4000000 in
set_option maxRecDepth 100000 in
theorem w_X12_toldNumber_46 (G : JG) (d : Nat) : ∀ (σ : Mem), JO G mX12_toldNumber (d + 2) 46 [some (.ref (G.1 + off 1000)), none, none, none] [] σ rI (X12_toldNumber_46 σ) := by
  intro σ
  unfold X12_toldNumber_46
  refine JO_aload_n (pc := 46) dX12_toldNumber_46 rfl ?_
  refine JO_getI (pc := 47) fl_X12_196 rfl fkX12_number dX12_toldNumber_47 ?_
  refine JO_nm (fun v3 => ?_)
  refine JO_istore_n (pc := 50) (L' := [some (.ref (G.1 + off 1000)), none, none, some (.int v3)]) dX12_toldNumber_50 rfl rfl rfl ?_
  refine JO_aload_n (pc := 51) dX12_toldNumber_51 rfl ?_
  refine JO_getI (pc := 52) fl_X12_212 rfl fkX12_fault dX12_toldNumber_52 ?_
  refine JO_if_ne (pc := 55) (tgt := 62) dX12_toldNumber_55 (by decide) ?_ ?_
  · refine JO_iload_n (pc := 62) dX12_toldNumber_62 rfl ?_
    exact JO_reti (pc := 63) rfl dX12_toldNumber_63
  · refine JO_aload_n (pc := 58) dX12_toldNumber_58 rfl ?_
    refine JO_callVv (pc := 59) [] lk_X12_272 rfl (ci := 12) rfl shX12 (w_X12_token G d  σ) rfl rfl (Nat.le_of_ble_eq_true rfl) dX12_toldNumber_59 (fun σ4 => ?_)
    refine JO_iload_n (pc := 62) dX12_toldNumber_62 rfl ?_
    exact JO_reti (pc := 63) rfl dX12_toldNumber_63
set_option maxHeartbeats 4000000 in
set_option maxRecDepth 100000 in
theorem w_X12_toldNumber (G : JG) (d : Nat) (x1 : Int32) (x2 : Int32) (σ : Mem) : JS G mX12_toldNumber (d + 2) [.ref (G.1 + off 1000), .int x1, .int x2] σ rI (X12_toldNumber x1 x2 σ) := by
  refine JS_of 1 (by decide +kernel) (Nat.le_of_ble_eq_true rfl) (L := [some (.ref (G.1 + off 1000)), some (.int x1), some (.int x2), none]) rfl ?_
  unfold X12_toldNumber
  refine JO_aload_n (pc := 0) dX12_toldNumber_0 rfl ?_
  refine JO_getI (pc := 1) fl_X12_212 rfl fkX12_fault dX12_toldNumber_1 ?_
  refine JO_if_le (pc := 4) (tgt := 9) dX12_toldNumber_4 (by decide) ?_ ?_
  · refine JO_aload_n (pc := 9) dX12_toldNumber_9 rfl ?_
    refine JO_getI (pc := 10) fl_X12_199 rfl fkX12_sort dX12_toldNumber_10 ?_
    refine JO_iconst (pc := 13) (a := 2) dX12_toldNumber_13 (by decide) ?_
    refine JO_icmp_eq (pc := 14) (tgt := 25) dX12_toldNumber_14 (by decide) ?_ ?_
    · refine JO_aload_n (pc := 25) dX12_toldNumber_25 rfl ?_
      refine JO_getI (pc := 26) fl_X12_196 rfl fkX12_number dX12_toldNumber_26 ?_
      refine JO_iload_n (pc := 29) dX12_toldNumber_29 rfl ?_
      refine JO_icmp_lt (pc := 30) (tgt := 41) dX12_toldNumber_30 (by decide) ?_ ?_
      · exact JO_sub (l_sub_some (l_sub_none (l_sub_none (l_sub_none (l_sub_nil))))) (w_X12_toldNumber_41 G d _ (w_X12_toldNumber_46 G d)  σ)
      · refine JO_aload_n (pc := 33) dX12_toldNumber_33 rfl ?_
        refine JO_getI (pc := 34) fl_X12_196 rfl fkX12_number dX12_toldNumber_34 ?_
        refine JO_iload_n (pc := 37) dX12_toldNumber_37 rfl ?_
        refine JO_icmp_le (pc := 38) (tgt := 46) dX12_toldNumber_38 (by decide) ?_ ?_
        · exact JO_sub (l_sub_some (l_sub_none (l_sub_none (l_sub_none (l_sub_nil))))) (w_X12_toldNumber_46 G d  σ)
        · exact JO_sub (l_sub_some (l_sub_none (l_sub_none (l_sub_none (l_sub_nil))))) (w_X12_toldNumber_41 G d _ (w_X12_toldNumber_46 G d)  σ)
    · refine JO_aload_n (pc := 17) dX12_toldNumber_17 rfl ?_
      refine JO_iconst (pc := 18) (a := 2) dX12_toldNumber_18 (by decide) ?_
      refine JO_callVv (pc := 19) [.int 2] lk_X12_269 rfl (ci := 12) rfl shX12 (w_X12_wrong G (d + 1) 2 σ) rfl rfl (Nat.le_of_ble_eq_true rfl) dX12_toldNumber_19 (fun σ1 => ?_)
      refine JO_goto (pc := 22) (tgt := 46) dX12_toldNumber_22 (by decide) ?_
      exact JO_sub (l_sub_some (l_sub_none (l_sub_none (l_sub_none (l_sub_nil))))) (w_X12_toldNumber_46 G d  σ1)
  · refine JO_iconst (pc := 7) (a := 0) dX12_toldNumber_7 (by decide) ?_
    exact JO_reti (pc := 8) rfl dX12_toldNumber_8
set_option maxHeartbeats 4000000 in
set_option maxRecDepth 100000 in
theorem w_X12_told (G : JG) (d : Nat) (x1 : Int64) (x3 : Int32) (x4 : Int32) (σ : Mem) : JS G mX12_told (d + 3) [.ref (G.1 + off 1000), .long x1, .int x3, .int x4] σ rI (X12_told x1 x3 x4 σ) := by
  refine JS_of 0 (by decide +kernel) (Nat.le_of_ble_eq_true rfl) (L := [some (.ref (G.1 + off 1000)), some (.long x1), none, some (.int x3), some (.int x4)]) rfl ?_
  unfold X12_told
  refine JO_aload_n (pc := 0) dX12_told_0 rfl ?_
  refine JO_lload_n (pc := 1) dX12_told_1 rfl ?_
  refine JO_callVv (pc := 2) [.long x1] lk_X12_275 rfl (ci := 12) rfl shX12 (w_X12_want G d x1 σ) rfl rfl (Nat.le_of_ble_eq_true rfl) dX12_told_2 (fun σ1 => ?_)
  refine JO_aload_n (pc := 5) dX12_told_5 rfl ?_
  refine JO_iload_n (pc := 6) dX12_told_6 rfl ?_
  refine JO_iload (pc := 7) dX12_told_7 rfl ?_
  refine JO_callVi (pc := 9) [.int x3, .int x4] lk_X12_279 rfl (ci := 12) rfl shX12 (w_X12_toldNumber G d x3 x4 σ1) rfl rfl (Nat.le_of_ble_eq_true rfl) dX12_told_9 (fun r2 => ?_)
  exact JO_reti (pc := 12) rfl dX12_told_12
set_option maxHeartbeats 4000000 in
set_option maxRecDepth 100000 in
theorem w_X12_option (G : JG) (d : Nat) (x1 : Int64) (x3 : Int32) (σ : Mem) : JS G mX12_option (d + 4) [.ref (G.1 + off 1000), .long x1, .int x3] σ rI (X12_option x1 x3 σ) := by
  refine JS_of 0 (by decide +kernel) (Nat.le_of_ble_eq_true rfl) (L := [some (.ref (G.1 + off 1000)), some (.long x1), none, some (.int x3)]) rfl ?_
  unfold X12_option
  refine JO_aload_n (pc := 0) dX12_option_0 rfl ?_
  refine JO_getI (pc := 1) fl_X12_212 rfl fkX12_fault dX12_option_1 ?_
  refine JO_if_ne (pc := 4) (tgt := 25) dX12_option_4 (by decide) ?_ ?_
  · refine JO_iconst (pc := 25) (a := 0) dX12_option_25 (by decide) ?_
    exact JO_reti (pc := 26) rfl dX12_option_26
  · refine JO_aload_n (pc := 7) dX12_option_7 rfl ?_
    refine JO_lload_n (pc := 8) dX12_option_8 rfl ?_
    refine JO_callVi (pc := 9) [.long x1] lk_X12_265 rfl (ci := 12) rfl shX12 (w_X12_isWord G (d + 3) x1 σ) rfl rfl (Nat.le_of_ble_eq_true rfl) dX12_option_9 (fun r1 => ?_)
    refine JO_if_eq (pc := 12) (tgt := 25) dX12_option_12 (by decide) ?_ ?_
    · refine JO_iconst (pc := 25) (a := 0) dX12_option_25 (by decide) ?_
      exact JO_reti (pc := 26) rfl dX12_option_26
    · refine JO_aload_n (pc := 15) dX12_option_15 rfl ?_
      refine JO_lload_n (pc := 16) dX12_option_16 rfl ?_
      refine JO_iconst (pc := 17) (a := 0) dX12_option_17 (by decide) ?_
      refine JO_iload_n (pc := 18) dX12_option_18 rfl ?_
      refine JO_callVi (pc := 19) [.long x1, .int 0, .int x3] lk_X12_283 rfl (ci := 12) rfl shX12 (w_X12_told G d x1 0 x3 r1.2) rfl rfl (Nat.le_of_ble_eq_true rfl) dX12_option_19 (fun r2 => ?_)
      refine JO_goto (pc := 22) (tgt := 26) dX12_option_22 (by decide) ?_
      exact JO_reti (pc := 26) rfl dX12_option_26
set_option maxHeartbeats 4000000 in
set_option maxRecDepth 100000 in
theorem w_X12_find_31 (G : JG) (d : Nat) (k4 : Int32 → Int32 → Mem → Option (Int32 × Mem)) (hk4 : ∀ (x1 : Int32) (x2 : Int32) (σ : Mem), JO G mX12_find d 4 [some (.ref (G.1 + off 1000)), some (.int x1), some (.int x2)] [] σ rI (k4 x1 x2 σ)) : ∀ (x2 : Int32) (s0 : Int32) (σ : Mem), JO G mX12_find d 31 [some (.ref (G.1 + off 1000)), none, some (.int x2)] [.int s0] σ rI (X12_find_31 k4 x2 s0 σ) := by
  intro x2 s0 σ
  unfold X12_find_31
  refine JO_istore_n (pc := 31) (L' := [some (.ref (G.1 + off 1000)), some (.int s0), some (.int x2)]) dX12_find_31 rfl rfl rfl ?_
  refine JO_inc (pc := 32) (b := 1) (L' := fun v3 => [some (.ref (G.1 + off 1000)), some (.int s0), some (.int v3)]) dX12_find_32 rfl rfl (by decide) rfl (fun _ => rfl) (fun v3 => ?_)
  refine JO_goto (pc := 35) (tgt := 4) dX12_find_35 (by decide) ?_
  exact JO_sub (l_sub_some (l_sub_some (l_sub_some (l_sub_nil)))) (hk4 s0 v3 σ)
set_option maxHeartbeats 4000000 in
set_option maxRecDepth 100000 in
theorem w_X12_find_4 (G : JG) (d : Nat) : ∀ (n : Nat) (x1 : Int32) (x2 : Int32) (σ : Mem), JO G mX12_find d 4 [some (.ref (G.1 + off 1000)), some (.int x1), some (.int x2)] [] σ rI (X12_find_4 n x1 x2 σ) := by
  intro n
  induction n with
  | zero =>
    intro x1 x2 σ
    exact JO_none
  | succ n ih =>
    intro x1 x2 σ
    rw [X12_find_4]
    refine JO_iload_n (pc := 4) dX12_find_4 rfl ?_
    refine JO_aload_n (pc := 5) dX12_find_5 rfl ?_
    refine JO_getI (pc := 6) fl_X12_287 rfl fkX12_nPeople dX12_find_6 ?_
    refine JO_icmp_ge (pc := 9) (tgt := 38) dX12_find_9 (by decide) ?_ ?_
    · refine JO_iload_n (pc := 38) dX12_find_38 rfl ?_
      exact JO_reti (pc := 39) rfl dX12_find_39
    · refine JO_aload_n (pc := 12) dX12_find_12 rfl ?_
      refine JO_getR (pc := 13) fl_X12_17 rfl fkX12_nName dX12_find_13 ?_
      refine JO_iload_n (pc := 16) dX12_find_16 rfl ?_
      refine JO_lald (pc := 17) akX12_nName dX12_find_17 ?_
      refine JO_aload_n (pc := 18) dX12_find_18 rfl ?_
      refine JO_getL (pc := 19) fl_X12_192 rfl fkX12_word dX12_find_19 ?_
      refine JO_lcmp (pc := 22) dX12_find_22 ?_
      refine JO_if_ne (pc := 23) (tgt := 30) dX12_find_23 (by decide) ?_ ?_
      · refine JO_iload_n (pc := 30) dX12_find_30 rfl ?_
        exact JO_sub (l_sub_some (l_sub_none (l_sub_some (l_sub_nil)))) (w_X12_find_31 G d _ (ih) x2 x1 σ)
      · refine JO_iload_n (pc := 26) dX12_find_26 rfl ?_
        refine JO_goto (pc := 27) (tgt := 31) dX12_find_27 (by decide) ?_
        exact JO_sub (l_sub_some (l_sub_none (l_sub_some (l_sub_nil)))) (w_X12_find_31 G d _ (ih) x2 x2 σ)
set_option maxHeartbeats 4000000 in
set_option maxRecDepth 100000 in
theorem w_X12_find (G : JG) (d : Nat) (σ : Mem) : JS G mX12_find d [.ref (G.1 + off 1000)] σ rI (X12_find σ) := by
  refine JS_of 2 (by decide +kernel) (Nat.le_of_ble_eq_true rfl) (L := [some (.ref (G.1 + off 1000)), none, none]) rfl ?_
  unfold X12_find
  refine JO_iconst (pc := 0) (a := (-1)) dX12_find_0 (by decide) ?_
  refine JO_nm (fun v1 => ?_)
  refine JO_istore_n (pc := 1) (L' := [some (.ref (G.1 + off 1000)), some (.int v1), none]) dX12_find_1 rfl rfl rfl ?_
  refine JO_iconst (pc := 2) (a := 0) dX12_find_2 (by decide) ?_
  refine JO_nm (fun v2 => ?_)
  refine JO_istore_n (pc := 3) (L' := [some (.ref (G.1 + off 1000)), some (.int v1), some (.int v2)]) dX12_find_3 rfl rfl rfl ?_
  exact JO_sub (l_sub_some (l_sub_some (l_sub_some (l_sub_nil)))) (w_X12_find_4 G d fu v1 v2 σ)
set_option maxHeartbeats 4000000 in
set_option maxRecDepth 100000 in
theorem w_X12_add (G : JG) (d : Nat) (x1 : Int32) (x2 : Int32) (σ : Mem) : JS G mX12_add d [.ref (G.1 + off 1000), .int x1, .int x2] σ rV (X12_add x1 x2 σ) := by
  refine JS_of 0 (by decide +kernel) (Nat.le_of_ble_eq_true rfl) (L := [some (.ref (G.1 + off 1000)), some (.int x1), some (.int x2)]) rfl ?_
  unfold X12_add
  refine JO_aload_n (pc := 0) dX12_add_0 rfl ?_
  refine JO_getR (pc := 1) fl_X12_21 rfl fkX12_nStep dX12_add_1 ?_
  refine JO_sipush (pc := 4) (a := 320) dX12_add_4 (by decide) ?_
  refine JO_aload_n (pc := 7) dX12_add_7 rfl ?_
  refine JO_getI (pc := 8) fl_X12_290 rfl fkX12_form dX12_add_8 ?_
  refine JO_imul (pc := 11) dX12_add_11 ?_
  refine JO_aload_n (pc := 12) dX12_add_12 rfl ?_
  refine JO_getR (pc := 13) fl_X12_27 rfl fkX12_nMany dX12_add_13 ?_
  refine JO_aload_n (pc := 16) dX12_add_16 rfl ?_
  refine JO_getI (pc := 17) fl_X12_290 rfl fkX12_form dX12_add_17 ?_
  refine JO_iald (pc := 20) akX12_nMany dX12_add_20 ?_
  refine JO_iadd (pc := 21) dX12_add_21 ?_
  refine JO_iload_n (pc := 22) dX12_add_22 rfl ?_
  refine JO_iast (pc := 23) akX12_nStep dX12_add_23 (fun σ1 => ?_)
  refine JO_aload_n (pc := 24) dX12_add_24 rfl ?_
  refine JO_getR (pc := 25) fl_X12_24 rfl fkX12_nArg dX12_add_25 ?_
  refine JO_sipush (pc := 28) (a := 320) dX12_add_28 (by decide) ?_
  refine JO_aload_n (pc := 31) dX12_add_31 rfl ?_
  refine JO_getI (pc := 32) fl_X12_290 rfl fkX12_form dX12_add_32 ?_
  refine JO_imul (pc := 35) dX12_add_35 ?_
  refine JO_aload_n (pc := 36) dX12_add_36 rfl ?_
  refine JO_getR (pc := 37) fl_X12_27 rfl fkX12_nMany dX12_add_37 ?_
  refine JO_aload_n (pc := 40) dX12_add_40 rfl ?_
  refine JO_getI (pc := 41) fl_X12_290 rfl fkX12_form dX12_add_41 ?_
  refine JO_iald (pc := 44) akX12_nMany dX12_add_44 ?_
  refine JO_iadd (pc := 45) dX12_add_45 ?_
  refine JO_iload_n (pc := 46) dX12_add_46 rfl ?_
  refine JO_iast (pc := 47) akX12_nArg dX12_add_47 (fun σ2 => ?_)
  refine JO_aload_n (pc := 48) dX12_add_48 rfl ?_
  refine JO_getR (pc := 49) fl_X12_27 rfl fkX12_nMany dX12_add_49 ?_
  refine JO_aload_n (pc := 52) dX12_add_52 rfl ?_
  refine JO_getI (pc := 53) fl_X12_290 rfl fkX12_form dX12_add_53 ?_
  refine JO_nm (fun v3 => ?_)
  refine JO_dup2 (pc := 56) dX12_add_56 rfl rfl ?_
  refine JO_iald (pc := 57) akX12_nMany dX12_add_57 ?_
  refine JO_iconst (pc := 58) (a := 1) dX12_add_58 (by decide) ?_
  refine JO_iadd (pc := 59) dX12_add_59 ?_
  refine JO_iast (pc := 60) akX12_nMany dX12_add_60 (fun σ4 => ?_)
  exact JO_retv (pc := 61) rfl dX12_add_61
set_option maxHeartbeats 4000000 in
set_option maxRecDepth 100000 in
theorem w_X12_tight (G : JG) (d : Nat) (x0 : Int32) (σ : Mem) : JS G mX12_tight d [.int x0] σ rI (X12_tight x0 σ) := by
  refine JS_of 0 (by decide +kernel) (Nat.le_of_ble_eq_true rfl) (L := [some (.int x0)]) rfl ?_
  unfold X12_tight
  refine JO_iload_n (pc := 0) dX12_tight_0 rfl ?_
  refine JO_ite (fun hc21 => ?_) (fun hc21 => ?_)
  · rw [hc21]
    refine JO_look (pc := 1) (tgt := 80) (off' := 79) dX12_tight_1 (by decide) (by decide) (by decide) ?_
    refine JO_iconst (pc := 80) (a := 3) dX12_tight_80 (by decide) ?_
    exact JO_reti (pc := 81) rfl dX12_tight_81
  refine JO_ite (fun hc38 => ?_) (fun hc38 => ?_)
  · rw [hc38]
    refine JO_look (pc := 1) (tgt := 78) (off' := 77) dX12_tight_1 (by decide) (by decide) (by decide) ?_
    refine JO_iconst (pc := 78) (a := 2) dX12_tight_78 (by decide) ?_
    exact JO_reti (pc := 79) rfl dX12_tight_79
  refine JO_ite (fun hc43 => ?_) (fun hc43 => ?_)
  · rw [hc43]
    refine JO_look (pc := 1) (tgt := 84) (off' := 83) dX12_tight_1 (by decide) (by decide) (by decide) ?_
    refine JO_iconst (pc := 84) (a := 5) dX12_tight_84 (by decide) ?_
    exact JO_reti (pc := 85) rfl dX12_tight_85
  refine JO_ite (fun hc45 => ?_) (fun hc45 => ?_)
  · rw [hc45]
    refine JO_look (pc := 1) (tgt := 84) (off' := 83) dX12_tight_1 (by decide) (by decide) (by decide) ?_
    refine JO_iconst (pc := 84) (a := 5) dX12_tight_84 (by decide) ?_
    exact JO_reti (pc := 85) rfl dX12_tight_85
  refine JO_ite (fun hc60 => ?_) (fun hc60 => ?_)
  · rw [hc60]
    refine JO_look (pc := 1) (tgt := 82) (off' := 81) dX12_tight_1 (by decide) (by decide) (by decide) ?_
    refine JO_iconst (pc := 82) (a := 4) dX12_tight_82 (by decide) ?_
    exact JO_reti (pc := 83) rfl dX12_tight_83
  refine JO_ite (fun hc61 => ?_) (fun hc61 => ?_)
  · rw [hc61]
    refine JO_look (pc := 1) (tgt := 82) (off' := 81) dX12_tight_1 (by decide) (by decide) (by decide) ?_
    refine JO_iconst (pc := 82) (a := 4) dX12_tight_82 (by decide) ?_
    exact JO_reti (pc := 83) rfl dX12_tight_83
  refine JO_ite (fun hc62 => ?_) (fun hc62 => ?_)
  · rw [hc62]
    refine JO_look (pc := 1) (tgt := 82) (off' := 81) dX12_tight_1 (by decide) (by decide) (by decide) ?_
    refine JO_iconst (pc := 82) (a := 4) dX12_tight_82 (by decide) ?_
    exact JO_reti (pc := 83) rfl dX12_tight_83
  refine JO_ite (fun hc124 => ?_) (fun hc124 => ?_)
  · rw [hc124]
    refine JO_look (pc := 1) (tgt := 76) (off' := 75) dX12_tight_1 (by decide) (by decide) (by decide) ?_
    refine JO_iconst (pc := 76) (a := 1) dX12_tight_76 (by decide) ?_
    exact JO_reti (pc := 77) rfl dX12_tight_77
  have z21 : x0.toInt ≠ 21 := ne_toInt hc21
  have z38 : x0.toInt ≠ 38 := ne_toInt hc38
  have z43 : x0.toInt ≠ 43 := ne_toInt hc43
  have z45 : x0.toInt ≠ 45 := ne_toInt hc45
  have z60 : x0.toInt ≠ 60 := ne_toInt hc60
  have z61 : x0.toInt ≠ 61 := ne_toInt hc61
  have z62 : x0.toInt ≠ 62 := ne_toInt hc62
  have z124 : x0.toInt ≠ 124 := ne_toInt hc124
  refine JO_look (pc := 1) (tgt := 86) (off' := 85) dX12_tight_1 (by decide) (by simp [Op.lookupswitch.offset, z21, z38, z43, z45, z60, z61, z62, z124, Ne.symm z21, Ne.symm z38, Ne.symm z43, Ne.symm z45, Ne.symm z60, Ne.symm z61, Ne.symm z62, Ne.symm z124]) (by decide) ?_
  refine JO_bipush (pc := 86) (a := 6) dX12_tight_86 (by decide) ?_
  exact JO_reti (pc := 88) rfl dX12_tight_88
set_option maxHeartbeats 4000000 in
set_option maxRecDepth 100000 in
theorem w_X12_close_0 (G : JG) (d : Nat) : ∀ (n : Nat) (x1 : Int32) (σ : Mem), JO G mX12_close (d + 1) 0 [some (.ref (G.1 + off 1000)), some (.int x1)] [] σ rV (X12_close_0 n x1 σ) := by
  intro n
  induction n with
  | zero =>
    intro x1 σ
    exact JO_none
  | succ n ih =>
    intro x1 σ
    rw [X12_close_0]
    refine JO_aload_n (pc := 0) dX12_close_0 rfl ?_
    refine JO_getI (pc := 1) fl_X12_293 rfl fkX12_opens dX12_close_1 ?_
    refine JO_if_le (pc := 4) (tgt := 101) dX12_close_4 (by decide) ?_ ?_
    · exact JO_retv (pc := 101) rfl dX12_close_101
    · refine JO_aload_n (pc := 7) dX12_close_7 rfl ?_
      refine JO_getR (pc := 8) fl_X12_39 rfl fkX12_open dX12_close_8 ?_
      refine JO_aload_n (pc := 11) dX12_close_11 rfl ?_
      refine JO_getI (pc := 12) fl_X12_293 rfl fkX12_opens dX12_close_12 ?_
      refine JO_iconst (pc := 15) (a := 1) dX12_close_15 (by decide) ?_
      refine JO_isub (pc := 16) dX12_close_16 ?_
      refine JO_iald (pc := 17) akX12_open dX12_close_17 ?_
      refine JO_bipush (pc := 18) (a := 20) dX12_close_18 (by decide) ?_
      refine JO_icmp_eq (pc := 20) (tgt := 101) dX12_close_20 (by decide) ?_ ?_
      · exact JO_retv (pc := 101) rfl dX12_close_101
      · refine JO_aload_n (pc := 23) dX12_close_23 rfl ?_
        refine JO_getR (pc := 24) fl_X12_39 rfl fkX12_open dX12_close_24 ?_
        refine JO_aload_n (pc := 27) dX12_close_27 rfl ?_
        refine JO_getI (pc := 28) fl_X12_293 rfl fkX12_opens dX12_close_28 ?_
        refine JO_iconst (pc := 31) (a := 1) dX12_close_31 (by decide) ?_
        refine JO_isub (pc := 32) dX12_close_32 ?_
        refine JO_iald (pc := 33) akX12_open dX12_close_33 ?_
        refine JO_callSi (pc := 34) [.int (σ.1 1009 ((σ.1 1000 20) - 1).toNatClampNeg)] lk_X12_296 rfl (w_X12_tight G d (σ.1 1009 ((σ.1 1000 20) - 1).toNatClampNeg) σ) rfl rfl (Nat.le_of_ble_eq_true rfl) dX12_close_34 (fun r1 => ?_)
        refine JO_iload_n (pc := 37) dX12_close_37 rfl ?_
        refine JO_icmp_lt (pc := 38) (tgt := 101) dX12_close_38 (by decide) ?_ ?_
        · exact JO_retv (pc := 101) rfl dX12_close_101
        · refine JO_aload_n (pc := 41) dX12_close_41 rfl ?_
          refine JO_dup (pc := 42) dX12_close_42 rfl ?_
          refine JO_getI (pc := 43) fl_X12_293 rfl fkX12_opens dX12_close_43 ?_
          refine JO_iconst (pc := 46) (a := 1) dX12_close_46 (by decide) ?_
          refine JO_isub (pc := 47) dX12_close_47 ?_
          refine JO_putI (pc := 48) fl_X12_293 rfl fkX12_opens dX12_close_48 (fun σ2 => ?_)
          refine JO_aload_n (pc := 51) dX12_close_51 rfl ?_
          refine JO_getR (pc := 52) fl_X12_39 rfl fkX12_open dX12_close_52 ?_
          refine JO_aload_n (pc := 55) dX12_close_55 rfl ?_
          refine JO_getI (pc := 56) fl_X12_293 rfl fkX12_opens dX12_close_56 ?_
          refine JO_iald (pc := 59) akX12_open dX12_close_59 ?_
          refine JO_bipush (pc := 60) (a := 21) dX12_close_60 (by decide) ?_
          refine JO_icmp_ne (pc := 62) (tgt := 84) dX12_close_62 (by decide) ?_ ?_
          · refine JO_aload_n (pc := 84) dX12_close_84 rfl ?_
            refine JO_iconst (pc := 85) (a := 3) dX12_close_85 (by decide) ?_
            refine JO_aload_n (pc := 86) dX12_close_86 rfl ?_
            refine JO_getR (pc := 87) fl_X12_39 rfl fkX12_open dX12_close_87 ?_
            refine JO_aload_n (pc := 90) dX12_close_90 rfl ?_
            refine JO_getI (pc := 91) fl_X12_293 rfl fkX12_opens dX12_close_91 ?_
            refine JO_iald (pc := 94) akX12_open dX12_close_94 ?_
            refine JO_callVv (pc := 95) [.int 3, .int (σ2.1 1009 (σ2.1 1000 20).toNatClampNeg)] lk_X12_299 rfl (ci := 12) rfl shX12 (w_X12_add G d 3 (σ2.1 1009 (σ2.1 1000 20).toNatClampNeg) σ2) rfl rfl (Nat.le_of_ble_eq_true rfl) dX12_close_95 (fun σ3 => ?_)
            refine JO_goto (pc := 98) (tgt := 0) dX12_close_98 (by decide) ?_
            exact JO_sub (l_sub_some (l_sub_some (l_sub_nil))) (ih x1 σ3)
          · refine JO_aload_n (pc := 65) dX12_close_65 rfl ?_
            refine JO_iconst (pc := 66) (a := 2) dX12_close_66 (by decide) ?_
            refine JO_iconst (pc := 67) (a := 0) dX12_close_67 (by decide) ?_
            refine JO_callVv (pc := 68) [.int 2, .int 0] lk_X12_299 rfl (ci := 12) rfl shX12 (w_X12_add G d 2 0 σ2) rfl rfl (Nat.le_of_ble_eq_true rfl) dX12_close_68 (fun σ4 => ?_)
            refine JO_aload_n (pc := 71) dX12_close_71 rfl ?_
            refine JO_dup (pc := 72) dX12_close_72 rfl ?_
            refine JO_getI (pc := 73) fl_X12_303 rfl fkX12_deep dX12_close_73 ?_
            refine JO_iconst (pc := 76) (a := 1) dX12_close_76 (by decide) ?_
            refine JO_isub (pc := 77) dX12_close_77 ?_
            refine JO_putI (pc := 78) fl_X12_303 rfl fkX12_deep dX12_close_78 (fun σ5 => ?_)
            refine JO_goto (pc := 81) (tgt := 0) dX12_close_81 (by decide) ?_
            exact JO_sub (l_sub_some (l_sub_some (l_sub_nil))) (ih x1 σ5)
set_option maxHeartbeats 4000000 in
set_option maxRecDepth 100000 in
theorem w_X12_close (G : JG) (d : Nat) (x1 : Int32) (σ : Mem) : JS G mX12_close (d + 1) [.ref (G.1 + off 1000), .int x1] σ rV (X12_close x1 σ) := by
  refine JS_of 0 (by decide +kernel) (Nat.le_of_ble_eq_true rfl) (L := [some (.ref (G.1 + off 1000)), some (.int x1)]) rfl ?_
  unfold X12_close
  exact JO_sub (l_sub_some (l_sub_some (l_sub_nil))) (w_X12_close_0 G d fu x1 σ)
set_option maxHeartbeats 4000000 in
set_option maxRecDepth 100000 in
theorem w_X12_hasRelation_41 (G : JG) (d : Nat) : ∀ (x1 : Int32) (σ : Mem), JO G mX12_hasRelation (d + 1) 41 [some (.ref (G.1 + off 1000)), some (.int x1)] [] σ rI (X12_hasRelation_41 x1 σ) := by
  intro x1 σ
  unfold X12_hasRelation_41
  refine JO_iload_n (pc := 41) dX12_hasRelation_41 rfl ?_
  refine JO_if_lt (pc := 42) (tgt := 73) dX12_hasRelation_42 (by decide) ?_ ?_
  · refine JO_iconst (pc := 73) (a := 0) dX12_hasRelation_73 (by decide) ?_
    exact JO_retzc (pc := 74) (by decide) rfl dX12_hasRelation_74
  · refine JO_aload_n (pc := 45) dX12_hasRelation_45 rfl ?_
    refine JO_getR (pc := 46) fl_X12_39 rfl fkX12_open dX12_hasRelation_46 ?_
    refine JO_iload_n (pc := 49) dX12_hasRelation_49 rfl ?_
    refine JO_iald (pc := 50) akX12_open dX12_hasRelation_50 ?_
    refine JO_bipush (pc := 51) (a := 20) dX12_hasRelation_51 (by decide) ?_
    refine JO_icmp_eq (pc := 53) (tgt := 73) dX12_hasRelation_53 (by decide) ?_ ?_
    · refine JO_iconst (pc := 73) (a := 0) dX12_hasRelation_73 (by decide) ?_
      exact JO_retzc (pc := 74) (by decide) rfl dX12_hasRelation_74
    · refine JO_aload_n (pc := 56) dX12_hasRelation_56 rfl ?_
      refine JO_getR (pc := 57) fl_X12_39 rfl fkX12_open dX12_hasRelation_57 ?_
      refine JO_iload_n (pc := 60) dX12_hasRelation_60 rfl ?_
      refine JO_iald (pc := 61) akX12_open dX12_hasRelation_61 ?_
      refine JO_callSi (pc := 62) [.int (σ.1 1009 x1.toNatClampNeg)] lk_X12_296 rfl (w_X12_tight G d (σ.1 1009 x1.toNatClampNeg) σ) rfl rfl (Nat.le_of_ble_eq_true rfl) dX12_hasRelation_62 (fun r4 => ?_)
      refine JO_iconst (pc := 65) (a := 4) dX12_hasRelation_65 (by decide) ?_
      refine JO_icmp_ne (pc := 66) (tgt := 73) dX12_hasRelation_66 (by decide) ?_ ?_
      · refine JO_iconst (pc := 73) (a := 0) dX12_hasRelation_73 (by decide) ?_
        exact JO_retzc (pc := 74) (by decide) rfl dX12_hasRelation_74
      · refine JO_iconst (pc := 69) (a := 1) dX12_hasRelation_69 (by decide) ?_
        refine JO_goto (pc := 70) (tgt := 74) dX12_hasRelation_70 (by decide) ?_
        exact JO_retzc (pc := 74) (by decide) rfl dX12_hasRelation_74
set_option maxHeartbeats 4000000 in
set_option maxRecDepth 100000 in
theorem w_X12_hasRelation_7 (G : JG) (d : Nat) : ∀ (n : Nat) (x1 : Int32) (σ : Mem), JO G mX12_hasRelation (d + 1) 7 [some (.ref (G.1 + off 1000)), some (.int x1)] [] σ rI (X12_hasRelation_7 n x1 σ) := by
  intro n
  induction n with
  | zero =>
    intro x1 σ
    exact JO_none
  | succ n ih =>
    intro x1 σ
    rw [X12_hasRelation_7]
    refine JO_iload_n (pc := 7) dX12_hasRelation_7 rfl ?_
    refine JO_if_lt (pc := 8) (tgt := 41) dX12_hasRelation_8 (by decide) ?_ ?_
    · exact JO_sub (l_sub_some (l_sub_some (l_sub_nil))) (w_X12_hasRelation_41 G d x1 σ)
    · refine JO_aload_n (pc := 11) dX12_hasRelation_11 rfl ?_
      refine JO_getR (pc := 12) fl_X12_39 rfl fkX12_open dX12_hasRelation_12 ?_
      refine JO_iload_n (pc := 15) dX12_hasRelation_15 rfl ?_
      refine JO_iald (pc := 16) akX12_open dX12_hasRelation_16 ?_
      refine JO_bipush (pc := 17) (a := 20) dX12_hasRelation_17 (by decide) ?_
      refine JO_icmp_eq (pc := 19) (tgt := 41) dX12_hasRelation_19 (by decide) ?_ ?_
      · exact JO_sub (l_sub_some (l_sub_some (l_sub_nil))) (w_X12_hasRelation_41 G d x1 σ)
      · refine JO_aload_n (pc := 22) dX12_hasRelation_22 rfl ?_
        refine JO_getR (pc := 23) fl_X12_39 rfl fkX12_open dX12_hasRelation_23 ?_
        refine JO_iload_n (pc := 26) dX12_hasRelation_26 rfl ?_
        refine JO_iald (pc := 27) akX12_open dX12_hasRelation_27 ?_
        refine JO_callSi (pc := 28) [.int (σ.1 1009 x1.toNatClampNeg)] lk_X12_296 rfl (w_X12_tight G d (σ.1 1009 x1.toNatClampNeg) σ) rfl rfl (Nat.le_of_ble_eq_true rfl) dX12_hasRelation_28 (fun r2 => ?_)
        refine JO_iconst (pc := 31) (a := 4) dX12_hasRelation_31 (by decide) ?_
        refine JO_icmp_le (pc := 32) (tgt := 41) dX12_hasRelation_32 (by decide) ?_ ?_
        · exact JO_sub (l_sub_some (l_sub_some (l_sub_nil))) (w_X12_hasRelation_41 G d x1 r2.2)
        · refine JO_inc (pc := 35) (b := (-1)) (L' := fun v3 => [some (.ref (G.1 + off 1000)), some (.int v3)]) dX12_hasRelation_35 rfl rfl (by decide) rfl (fun _ => rfl) (fun v3 => ?_)
          refine JO_goto (pc := 38) (tgt := 7) dX12_hasRelation_38 (by decide) ?_
          exact JO_sub (l_sub_some (l_sub_some (l_sub_nil))) (ih v3 r2.2)
set_option maxHeartbeats 4000000 in
set_option maxRecDepth 100000 in
theorem w_X12_hasRelation (G : JG) (d : Nat) (σ : Mem) : JS G mX12_hasRelation (d + 1) [.ref (G.1 + off 1000)] σ rI (X12_hasRelation σ) := by
  refine JS_of 1 (by decide +kernel) (Nat.le_of_ble_eq_true rfl) (L := [some (.ref (G.1 + off 1000)), none]) rfl ?_
  unfold X12_hasRelation
  refine JO_aload_n (pc := 0) dX12_hasRelation_0 rfl ?_
  refine JO_getI (pc := 1) fl_X12_293 rfl fkX12_opens dX12_hasRelation_1 ?_
  refine JO_iconst (pc := 4) (a := 1) dX12_hasRelation_4 (by decide) ?_
  refine JO_isub (pc := 5) dX12_hasRelation_5 ?_
  refine JO_nm (fun v1 => ?_)
  refine JO_istore_n (pc := 6) (L' := [some (.ref (G.1 + off 1000)), some (.int v1)]) dX12_hasRelation_6 rfl rfl rfl ?_
  exact JO_sub (l_sub_some (l_sub_some (l_sub_nil))) (w_X12_hasRelation_7 G d fu v1 σ)
set_option maxHeartbeats 4000000 in
set_option maxRecDepth 100000 in
theorem w_X12_mayNot (G : JG) (d : Nat) (σ : Mem) : JS G mX12_mayNot (d + 1) [.ref (G.1 + off 1000)] σ rI (X12_mayNot σ) := by
  refine JS_of 0 (by decide +kernel) (Nat.le_of_ble_eq_true rfl) (L := [some (.ref (G.1 + off 1000))]) rfl ?_
  unfold X12_mayNot
  refine JO_aload_n (pc := 0) dX12_mayNot_0 rfl ?_
  refine JO_getI (pc := 1) fl_X12_293 rfl fkX12_opens dX12_mayNot_1 ?_
  refine JO_if_eq (pc := 4) (tgt := 41) dX12_mayNot_4 (by decide) ?_ ?_
  · refine JO_iconst (pc := 41) (a := 1) dX12_mayNot_41 (by decide) ?_
    refine JO_goto (pc := 42) (tgt := 46) dX12_mayNot_42 (by decide) ?_
    exact JO_retzc (pc := 46) (by decide) rfl dX12_mayNot_46
  · refine JO_aload_n (pc := 7) dX12_mayNot_7 rfl ?_
    refine JO_getR (pc := 8) fl_X12_39 rfl fkX12_open dX12_mayNot_8 ?_
    refine JO_aload_n (pc := 11) dX12_mayNot_11 rfl ?_
    refine JO_getI (pc := 12) fl_X12_293 rfl fkX12_opens dX12_mayNot_12 ?_
    refine JO_iconst (pc := 15) (a := 1) dX12_mayNot_15 (by decide) ?_
    refine JO_isub (pc := 16) dX12_mayNot_16 ?_
    refine JO_iald (pc := 17) akX12_open dX12_mayNot_17 ?_
    refine JO_bipush (pc := 18) (a := 20) dX12_mayNot_18 (by decide) ?_
    refine JO_icmp_eq (pc := 20) (tgt := 41) dX12_mayNot_20 (by decide) ?_ ?_
    · refine JO_iconst (pc := 41) (a := 1) dX12_mayNot_41 (by decide) ?_
      refine JO_goto (pc := 42) (tgt := 46) dX12_mayNot_42 (by decide) ?_
      exact JO_retzc (pc := 46) (by decide) rfl dX12_mayNot_46
    · refine JO_aload_n (pc := 23) dX12_mayNot_23 rfl ?_
      refine JO_getR (pc := 24) fl_X12_39 rfl fkX12_open dX12_mayNot_24 ?_
      refine JO_aload_n (pc := 27) dX12_mayNot_27 rfl ?_
      refine JO_getI (pc := 28) fl_X12_293 rfl fkX12_opens dX12_mayNot_28 ?_
      refine JO_iconst (pc := 31) (a := 1) dX12_mayNot_31 (by decide) ?_
      refine JO_isub (pc := 32) dX12_mayNot_32 ?_
      refine JO_iald (pc := 33) akX12_open dX12_mayNot_33 ?_
      refine JO_callSi (pc := 34) [.int (σ.1 1009 ((σ.1 1000 20) - 1).toNatClampNeg)] lk_X12_296 rfl (w_X12_tight G d (σ.1 1009 ((σ.1 1000 20) - 1).toNatClampNeg) σ) rfl rfl (Nat.le_of_ble_eq_true rfl) dX12_mayNot_34 (fun r1 => ?_)
      refine JO_iconst (pc := 37) (a := 4) dX12_mayNot_37 (by decide) ?_
      refine JO_icmp_ge (pc := 38) (tgt := 45) dX12_mayNot_38 (by decide) ?_ ?_
      · refine JO_iconst (pc := 45) (a := 0) dX12_mayNot_45 (by decide) ?_
        exact JO_retzc (pc := 46) (by decide) rfl dX12_mayNot_46
      · refine JO_iconst (pc := 41) (a := 1) dX12_mayNot_41 (by decide) ?_
        refine JO_goto (pc := 42) (tgt := 46) dX12_mayNot_42 (by decide) ?_
        exact JO_retzc (pc := 46) (by decide) rfl dX12_mayNot_46
set_option maxHeartbeats 4000000 in
set_option maxRecDepth 100000 in
theorem w_X12_asked (G : JG) (d : Nat) (σ : Mem) : JS G mX12_asked d [.ref (G.1 + off 1000)] σ rI (X12_asked σ) := by
  refine JS_of 0 (by decide +kernel) (Nat.le_of_ble_eq_true rfl) (L := [some (.ref (G.1 + off 1000))]) rfl ?_
  unfold X12_asked
  refine JO_aload_n (pc := 0) dX12_asked_0 rfl ?_
  refine JO_getI (pc := 1) fl_X12_199 rfl fkX12_sort dX12_asked_1 ?_
  refine JO_iconst (pc := 4) (a := 1) dX12_asked_4 (by decide) ?_
  refine JO_icmp_eq (pc := 5) (tgt := 10) dX12_asked_5 (by decide) ?_ ?_
  · refine JO_aload_n (pc := 10) dX12_asked_10 rfl ?_
    refine JO_getL (pc := 11) fl_X12_192 rfl fkX12_word dX12_asked_11 ?_
    refine JO_ldc2 (pc := 14) kc_X12_241 rfl dX12_asked_14 ?_
    refine JO_lcmp (pc := 17) dX12_asked_17 ?_
    refine JO_if_ne (pc := 18) (tgt := 23) dX12_asked_18 (by decide) ?_ ?_
    · refine JO_aload_n (pc := 23) dX12_asked_23 rfl ?_
      refine JO_getL (pc := 24) fl_X12_192 rfl fkX12_word dX12_asked_24 ?_
      refine JO_ldc2 (pc := 27) kc_X12_243 rfl dX12_asked_27 ?_
      refine JO_lcmp (pc := 30) dX12_asked_30 ?_
      refine JO_if_ne (pc := 31) (tgt := 36) dX12_asked_31 (by decide) ?_ ?_
      · refine JO_aload_n (pc := 36) dX12_asked_36 rfl ?_
        refine JO_getL (pc := 37) fl_X12_192 rfl fkX12_word dX12_asked_37 ?_
        refine JO_ldc2 (pc := 40) kc_X12_245 rfl dX12_asked_40 ?_
        refine JO_lcmp (pc := 43) dX12_asked_43 ?_
        refine JO_if_ne (pc := 44) (tgt := 49) dX12_asked_44 (by decide) ?_ ?_
        · refine JO_aload_n (pc := 49) dX12_asked_49 rfl ?_
          refine JO_getL (pc := 50) fl_X12_192 rfl fkX12_word dX12_asked_50 ?_
          refine JO_ldc2 (pc := 53) kc_X12_247 rfl dX12_asked_53 ?_
          refine JO_lcmp (pc := 56) dX12_asked_56 ?_
          refine JO_if_ne (pc := 57) (tgt := 62) dX12_asked_57 (by decide) ?_ ?_
          · refine JO_aload_n (pc := 62) dX12_asked_62 rfl ?_
            refine JO_getL (pc := 63) fl_X12_192 rfl fkX12_word dX12_asked_63 ?_
            refine JO_ldc2 (pc := 66) kc_X12_249 rfl dX12_asked_66 ?_
            refine JO_lcmp (pc := 69) dX12_asked_69 ?_
            refine JO_if_ne (pc := 70) (tgt := 75) dX12_asked_70 (by decide) ?_ ?_
            · refine JO_aload_n (pc := 75) dX12_asked_75 rfl ?_
              refine JO_getL (pc := 76) fl_X12_192 rfl fkX12_word dX12_asked_76 ?_
              refine JO_ldc2 (pc := 79) kc_X12_251 rfl dX12_asked_79 ?_
              refine JO_lcmp (pc := 82) dX12_asked_82 ?_
              refine JO_if_ne (pc := 83) (tgt := 88) dX12_asked_83 (by decide) ?_ ?_
              · refine JO_aload_n (pc := 88) dX12_asked_88 rfl ?_
                refine JO_getL (pc := 89) fl_X12_192 rfl fkX12_word dX12_asked_89 ?_
                refine JO_ldc2 (pc := 92) kc_X12_253 rfl dX12_asked_92 ?_
                refine JO_lcmp (pc := 95) dX12_asked_95 ?_
                refine JO_if_ne (pc := 96) (tgt := 104) dX12_asked_96 (by decide) ?_ ?_
                · refine JO_iconst (pc := 104) (a := (-1)) dX12_asked_104 (by decide) ?_
                  exact JO_reti (pc := 105) rfl dX12_asked_105
                · refine JO_bipush (pc := 99) (a := 6) dX12_asked_99 (by decide) ?_
                  refine JO_goto (pc := 101) (tgt := 105) dX12_asked_101 (by decide) ?_
                  exact JO_reti (pc := 105) rfl dX12_asked_105
              · refine JO_iconst (pc := 86) (a := 5) dX12_asked_86 (by decide) ?_
                exact JO_reti (pc := 87) rfl dX12_asked_87
            · refine JO_iconst (pc := 73) (a := 4) dX12_asked_73 (by decide) ?_
              exact JO_reti (pc := 74) rfl dX12_asked_74
          · refine JO_iconst (pc := 60) (a := 3) dX12_asked_60 (by decide) ?_
            exact JO_reti (pc := 61) rfl dX12_asked_61
        · refine JO_iconst (pc := 47) (a := 2) dX12_asked_47 (by decide) ?_
          exact JO_reti (pc := 48) rfl dX12_asked_48
      · refine JO_iconst (pc := 34) (a := 1) dX12_asked_34 (by decide) ?_
        exact JO_reti (pc := 35) rfl dX12_asked_35
    · refine JO_iconst (pc := 21) (a := 0) dX12_asked_21 (by decide) ?_
      exact JO_reti (pc := 22) rfl dX12_asked_22
  · refine JO_iconst (pc := 8) (a := (-1)) dX12_asked_8 (by decide) ?_
    exact JO_reti (pc := 9) rfl dX12_asked_9
set_option maxHeartbeats 4000000 in
set_option maxRecDepth 100000 in
theorem w_X12_isFull (G : JG) (d : Nat) (σ : Mem) : JS G mX12_isFull d [.ref (G.1 + off 1000)] σ rI (X12_isFull σ) := by
  refine JS_of 0 (by decide +kernel) (Nat.le_of_ble_eq_true rfl) (L := [some (.ref (G.1 + off 1000))]) rfl ?_
  unfold X12_isFull
  refine JO_aload_n (pc := 0) dX12_isFull_0 rfl ?_
  refine JO_getI (pc := 1) fl_X12_306 rfl fkX12_nUnits dX12_isFull_1 ?_
  refine JO_bipush (pc := 4) (a := 80) dX12_isFull_4 (by decide) ?_
  refine JO_icmp_eq (pc := 6) (tgt := 18) dX12_isFull_6 (by decide) ?_ ?_
  · refine JO_iconst (pc := 18) (a := 1) dX12_isFull_18 (by decide) ?_
    refine JO_goto (pc := 19) (tgt := 23) dX12_isFull_19 (by decide) ?_
    exact JO_retzc (pc := 23) (by decide) rfl dX12_isFull_23
  · refine JO_aload_n (pc := 9) dX12_isFull_9 rfl ?_
    refine JO_getI (pc := 10) fl_X12_309 rfl fkX12_ownUnits dX12_isFull_10 ?_
    refine JO_bipush (pc := 13) (a := 30) dX12_isFull_13 (by decide) ?_
    refine JO_icmp_ne (pc := 15) (tgt := 22) dX12_isFull_15 (by decide) ?_ ?_
    · refine JO_iconst (pc := 22) (a := 0) dX12_isFull_22 (by decide) ?_
      exact JO_retzc (pc := 23) (by decide) rfl dX12_isFull_23
    · refine JO_iconst (pc := 18) (a := 1) dX12_isFull_18 (by decide) ?_
      refine JO_goto (pc := 19) (tgt := 23) dX12_isFull_19 (by decide) ?_
      exact JO_retzc (pc := 23) (by decide) rfl dX12_isFull_23
set_option maxHeartbeats 4000000 in
set_option maxRecDepth 100000 in
theorem w_X12_countUnit (G : JG) (d : Nat) (σ : Mem) : JS G mX12_countUnit d [.ref (G.1 + off 1000)] σ rV (X12_countUnit σ) := by
  refine JS_of 0 (by decide +kernel) (Nat.le_of_ble_eq_true rfl) (L := [some (.ref (G.1 + off 1000))]) rfl ?_
  unfold X12_countUnit
  refine JO_aload_n (pc := 0) dX12_countUnit_0 rfl ?_
  refine JO_dup (pc := 1) dX12_countUnit_1 rfl ?_
  refine JO_getI (pc := 2) fl_X12_306 rfl fkX12_nUnits dX12_countUnit_2 ?_
  refine JO_iconst (pc := 5) (a := 1) dX12_countUnit_5 (by decide) ?_
  refine JO_iadd (pc := 6) dX12_countUnit_6 ?_
  refine JO_putI (pc := 7) fl_X12_306 rfl fkX12_nUnits dX12_countUnit_7 (fun σ1 => ?_)
  refine JO_aload_n (pc := 10) dX12_countUnit_10 rfl ?_
  refine JO_dup (pc := 11) dX12_countUnit_11 rfl ?_
  refine JO_getI (pc := 12) fl_X12_309 rfl fkX12_ownUnits dX12_countUnit_12 ?_
  refine JO_iconst (pc := 15) (a := 1) dX12_countUnit_15 (by decide) ?_
  refine JO_iadd (pc := 16) dX12_countUnit_16 ?_
  refine JO_putI (pc := 17) fl_X12_309 rfl fkX12_ownUnits dX12_countUnit_17 (fun σ2 => ?_)
  exact JO_retv (pc := 20) rfl dX12_countUnit_20
set_option maxHeartbeats 4000000 in
set_option maxRecDepth 100000 in
theorem w_X12_openUp (G : JG) (d : Nat) (x1 : Int32) (σ : Mem) : JS G mX12_openUp (d + 2) [.ref (G.1 + off 1000), .int x1] σ rV (X12_openUp x1 σ) := by
  refine JS_of 0 (by decide +kernel) (Nat.le_of_ble_eq_true rfl) (L := [some (.ref (G.1 + off 1000)), some (.int x1)]) rfl ?_
  unfold X12_openUp
  refine JO_aload_n (pc := 0) dX12_openUp_0 rfl ?_
  refine JO_getR (pc := 1) fl_X12_39 rfl fkX12_open dX12_openUp_1 ?_
  refine JO_aload_n (pc := 4) dX12_openUp_4 rfl ?_
  refine JO_getI (pc := 5) fl_X12_293 rfl fkX12_opens dX12_openUp_5 ?_
  refine JO_iload_n (pc := 8) dX12_openUp_8 rfl ?_
  refine JO_iast (pc := 9) akX12_open dX12_openUp_9 (fun σ1 => ?_)
  refine JO_aload_n (pc := 10) dX12_openUp_10 rfl ?_
  refine JO_dup (pc := 11) dX12_openUp_11 rfl ?_
  refine JO_getI (pc := 12) fl_X12_293 rfl fkX12_opens dX12_openUp_12 ?_
  refine JO_iconst (pc := 15) (a := 1) dX12_openUp_15 (by decide) ?_
  refine JO_iadd (pc := 16) dX12_openUp_16 ?_
  refine JO_putI (pc := 17) fl_X12_293 rfl fkX12_opens dX12_openUp_17 (fun σ2 => ?_)
  refine JO_aload_n (pc := 20) dX12_openUp_20 rfl ?_
  refine JO_dup (pc := 21) dX12_openUp_21 rfl ?_
  refine JO_getI (pc := 22) fl_X12_303 rfl fkX12_deep dX12_openUp_22 ?_
  refine JO_iconst (pc := 25) (a := 1) dX12_openUp_25 (by decide) ?_
  refine JO_iadd (pc := 26) dX12_openUp_26 ?_
  refine JO_putI (pc := 27) fl_X12_303 rfl fkX12_deep dX12_openUp_27 (fun σ3 => ?_)
  refine JO_aload_n (pc := 30) dX12_openUp_30 rfl ?_
  refine JO_getI (pc := 31) fl_X12_212 rfl fkX12_fault dX12_openUp_31 ?_
  refine JO_if_ne (pc := 34) (tgt := 41) dX12_openUp_34 (by decide) ?_ ?_
  · exact JO_retv (pc := 41) rfl dX12_openUp_41
  · refine JO_aload_n (pc := 37) dX12_openUp_37 rfl ?_
    refine JO_callVv (pc := 38) [] lk_X12_272 rfl (ci := 12) rfl shX12 (w_X12_token G d  σ3) rfl rfl (Nat.le_of_ble_eq_true rfl) dX12_openUp_38 (fun σ4 => ?_)
    exact JO_retv (pc := 41) rfl dX12_openUp_41
set_option maxHeartbeats 4000000 in
set_option maxRecDepth 100000 in
theorem w_X12_unit_172 (G : JG) (d : Nat) : ∀ (s0 : Int32) (s1 : Int32) (σ : Mem), JO G mX12_unit (d + 3) 172 [some (.ref (G.1 + off 1000)), none, none] [.int s0, .int s1, .ref (G.1 + off 1000)] σ rV (X12_unit_172 s0 s1 σ) := by
  intro s0 s1 σ
  unfold X12_unit_172
  refine JO_callVv (pc := 172) [.int s1, .int s0] lk_X12_299 rfl (ci := 12) rfl shX12 (w_X12_add G (d + 2) s1 s0 σ) rfl rfl (Nat.le_of_ble_eq_true rfl) dX12_unit_172 (fun σ16 => ?_)
  refine JO_aload_n (pc := 175) dX12_unit_175 rfl ?_
  refine JO_callVv (pc := 176) [] lk_X12_272 rfl (ci := 12) rfl shX12 (w_X12_token G (d + 1)  σ16) rfl rfl (Nat.le_of_ble_eq_true rfl) dX12_unit_176 (fun σ17 => ?_)
  exact JO_retv (pc := 179) rfl dX12_unit_179
set_option maxHeartbeats 4000000 in
set_option maxRecDepth 100000 in
theorem w_X12_unit_160 (G : JG) (d : Nat) : ∀ (x2 : Int32) (s0 : Int32) (σ : Mem), JO G mX12_unit (d + 3) 160 [some (.ref (G.1 + off 1000)), none, some (.int x2)] [.int s0, .ref (G.1 + off 1000)] σ rV (X12_unit_160 x2 s0 σ) := by
  intro x2 s0 σ
  unfold X12_unit_160
  refine JO_iload_n (pc := 160) dX12_unit_160 rfl ?_
  refine JO_if_ge (pc := 161) (tgt := 171) dX12_unit_161 (by decide) ?_ ?_
  · refine JO_iload_n (pc := 171) dX12_unit_171 rfl ?_
    exact JO_sub (l_sub_some (l_sub_none (l_sub_none (l_sub_nil)))) (w_X12_unit_172 G d x2 s0 σ)
  · refine JO_aload_n (pc := 164) dX12_unit_164 rfl ?_
    refine JO_getI (pc := 165) fl_X12_196 rfl fkX12_number dX12_unit_165 ?_
    refine JO_goto (pc := 168) (tgt := 172) dX12_unit_168 (by decide) ?_
    exact JO_sub (l_sub_some (l_sub_none (l_sub_none (l_sub_nil)))) (w_X12_unit_172 G d (σ.1 1000 8) s0 σ)
set_option maxHeartbeats 4000000 in
set_option maxRecDepth 100000 in
theorem w_X12_unit_44 (G : JG) (d : Nat) (k2 : Int32 → Mem → Option Mem) (hk2 : ∀ (x1 : Int32) (σ : Mem), JO G mX12_unit (d + 3) 2 [some (.ref (G.1 + off 1000)), some (.int x1), none] [] σ rV (k2 x1 σ)) : ∀ (x1 : Int32) (σ : Mem), JO G mX12_unit (d + 3) 44 [some (.ref (G.1 + off 1000)), some (.int x1), none] [] σ rV (X12_unit_44 k2 x1 σ) := by
  intro x1 σ
  unfold X12_unit_44
  refine JO_aload_n (pc := 44) dX12_unit_44 rfl ?_
  refine JO_bipush (pc := 45) (a := 21) dX12_unit_45 (by decide) ?_
  refine JO_callVv (pc := 47) [.int 21] lk_X12_315 rfl (ci := 12) rfl shX12 (w_X12_openUp G d 21 σ) rfl rfl (Nat.le_of_ble_eq_true rfl) dX12_unit_47 (fun σ9 => ?_)
  refine JO_goto (pc := 50) (tgt := 2) dX12_unit_50 (by decide) ?_
  exact JO_sub (l_sub_some (l_sub_some (l_sub_none (l_sub_nil)))) (hk2 x1 σ9)
set_option maxHeartbeats 4000000 in
set_option maxRecDepth 100000 in
theorem w_X12_unit_78 (G : JG) (d : Nat) (k83 : Int32 → Mem → Option Mem) (hk83 : ∀ (x1 : Int32) (σ : Mem), JO G mX12_unit (d + 3) 83 [some (.ref (G.1 + off 1000)), some (.int x1), none] [] σ rV (k83 x1 σ)) : ∀ (x1 : Int32) (σ : Mem), JO G mX12_unit (d + 3) 78 [some (.ref (G.1 + off 1000)), some (.int x1), none] [] σ rV (X12_unit_78 k83 x1 σ) := by
  intro x1 σ
  unfold X12_unit_78
  refine JO_aload_n (pc := 78) dX12_unit_78 rfl ?_
  refine JO_iconst (pc := 79) (a := 2) dX12_unit_79 (by decide) ?_
  refine JO_callVv (pc := 80) [.int 2] lk_X12_269 rfl (ci := 12) rfl shX12 (w_X12_wrong G (d + 2) 2 σ) rfl rfl (Nat.le_of_ble_eq_true rfl) dX12_unit_80 (fun σ12 => ?_)
  exact JO_sub (l_sub_some (l_sub_some (l_sub_none (l_sub_nil)))) (hk83 x1 σ12)
set_option maxHeartbeats 4000000 in
set_option maxRecDepth 100000 in
theorem w_X12_unit_83 (G : JG) (d : Nat) (k2 : Int32 → Mem → Option Mem) (hk2 : ∀ (x1 : Int32) (σ : Mem), JO G mX12_unit (d + 3) 2 [some (.ref (G.1 + off 1000)), some (.int x1), none] [] σ rV (k2 x1 σ)) : ∀ (x1 : Int32) (σ : Mem), JO G mX12_unit (d + 3) 83 [some (.ref (G.1 + off 1000)), some (.int x1), none] [] σ rV (X12_unit_83 k2 x1 σ) := by
  intro x1 σ
  unfold X12_unit_83
  refine JO_aload_n (pc := 83) dX12_unit_83 rfl ?_
  refine JO_callVv (pc := 84) [] lk_X12_321 rfl (ci := 12) rfl shX12 (w_X12_countUnit G (d + 2)  σ) rfl rfl (Nat.le_of_ble_eq_true rfl) dX12_unit_84 (fun σ13 => ?_)
  refine JO_aload_n (pc := 87) dX12_unit_87 rfl ?_
  refine JO_bipush (pc := 88) (a := 20) dX12_unit_88 (by decide) ?_
  refine JO_callVv (pc := 90) [.int 20] lk_X12_315 rfl (ci := 12) rfl shX12 (w_X12_openUp G d 20 σ13) rfl rfl (Nat.le_of_ble_eq_true rfl) dX12_unit_90 (fun σ14 => ?_)
  refine JO_goto (pc := 93) (tgt := 2) dX12_unit_93 (by decide) ?_
  exact JO_sub (l_sub_some (l_sub_some (l_sub_none (l_sub_nil)))) (hk2 x1 σ14)
set_option maxHeartbeats 4000000 in
set_option maxRecDepth 100000 in
theorem w_X12_unit_126 (G : JG) (d : Nat) (k133 : Int32 → Mem → Option Mem) (k138 : Int32 → Mem → Option Mem) (hk133 : ∀ (x2 : Int32) (σ : Mem), JO G mX12_unit (d + 3) 133 [some (.ref (G.1 + off 1000)), none, some (.int x2)] [] σ rV (k133 x2 σ)) (hk138 : ∀ (x2 : Int32) (σ : Mem), JO G mX12_unit (d + 3) 138 [some (.ref (G.1 + off 1000)), none, some (.int x2)] [] σ rV (k138 x2 σ)) : ∀ (x2 : Int32) (σ : Mem), JO G mX12_unit (d + 3) 126 [some (.ref (G.1 + off 1000)), none, some (.int x2)] [] σ rV (X12_unit_126 k133 k138 x2 σ) := by
  intro x2 σ
  unfold X12_unit_126
  refine JO_aload_n (pc := 126) dX12_unit_126 rfl ?_
  refine JO_callVi (pc := 127) [] lk_X12_318 rfl (ci := 12) rfl shX12 (w_X12_isFull G (d + 2)  σ) rfl rfl (Nat.le_of_ble_eq_true rfl) dX12_unit_127 (fun r10 => ?_)
  refine JO_if_eq (pc := 130) (tgt := 138) dX12_unit_130 (by decide) ?_ ?_
  · exact JO_sub (l_sub_some (l_sub_none (l_sub_some (l_sub_nil)))) (hk138 x2 r10.2)
  · exact JO_sub (l_sub_some (l_sub_none (l_sub_some (l_sub_nil)))) (hk133 x2 r10.2)
set_option maxHeartbeats 4000000 in
set_option maxRecDepth 100000 in
theorem w_X12_unit_133 (G : JG) (d : Nat) (k138 : Int32 → Mem → Option Mem) (hk138 : ∀ (x2 : Int32) (σ : Mem), JO G mX12_unit (d + 3) 138 [some (.ref (G.1 + off 1000)), none, some (.int x2)] [] σ rV (k138 x2 σ)) : ∀ (x2 : Int32) (σ : Mem), JO G mX12_unit (d + 3) 133 [some (.ref (G.1 + off 1000)), none, some (.int x2)] [] σ rV (X12_unit_133 k138 x2 σ) := by
  intro x2 σ
  unfold X12_unit_133
  refine JO_aload_n (pc := 133) dX12_unit_133 rfl ?_
  refine JO_iconst (pc := 134) (a := 2) dX12_unit_134 (by decide) ?_
  refine JO_callVv (pc := 135) [.int 2] lk_X12_269 rfl (ci := 12) rfl shX12 (w_X12_wrong G (d + 2) 2 σ) rfl rfl (Nat.le_of_ble_eq_true rfl) dX12_unit_135 (fun σ11 => ?_)
  exact JO_sub (l_sub_some (l_sub_none (l_sub_some (l_sub_nil)))) (hk138 x2 σ11)
set_option maxHeartbeats 4000000 in
set_option maxRecDepth 100000 in
theorem w_X12_unit_138 (G : JG) (d : Nat) : ∀ (x2 : Int32) (σ : Mem), JO G mX12_unit (d + 3) 138 [some (.ref (G.1 + off 1000)), none, some (.int x2)] [] σ rV (X12_unit_138 x2 σ) := by
  intro x2 σ
  unfold X12_unit_138
  refine JO_aload_n (pc := 138) dX12_unit_138 rfl ?_
  refine JO_getI (pc := 139) fl_X12_212 rfl fkX12_fault dX12_unit_139 ?_
  refine JO_if_le (pc := 142) (tgt := 146) dX12_unit_142 (by decide) ?_ ?_
  · refine JO_aload_n (pc := 146) dX12_unit_146 rfl ?_
    refine JO_callVv (pc := 147) [] lk_X12_321 rfl (ci := 12) rfl shX12 (w_X12_countUnit G (d + 2)  σ) rfl rfl (Nat.le_of_ble_eq_true rfl) dX12_unit_147 (fun σ15 => ?_)
    refine JO_aload_n (pc := 150) dX12_unit_150 rfl ?_
    refine JO_iload_n (pc := 151) dX12_unit_151 rfl ?_
    refine JO_if_ge (pc := 152) (tgt := 159) dX12_unit_152 (by decide) ?_ ?_
    · refine JO_iconst (pc := 159) (a := 1) dX12_unit_159 (by decide) ?_
      exact JO_sub (l_sub_some (l_sub_none (l_sub_some (l_sub_nil)))) (w_X12_unit_160 G d x2 1 σ15)
    · refine JO_iconst (pc := 155) (a := 0) dX12_unit_155 (by decide) ?_
      refine JO_goto (pc := 156) (tgt := 160) dX12_unit_156 (by decide) ?_
      exact JO_sub (l_sub_some (l_sub_none (l_sub_some (l_sub_nil)))) (w_X12_unit_160 G d x2 0 σ15)
  · exact JO_retv (pc := 145) rfl dX12_unit_145
set_option maxHeartbeats 4000000 in
set_option maxRecDepth 100000 in
theorem w_X12_unit_53 (G : JG) (d : Nat) (k2 : Int32 → Mem → Option Mem) (hk2 : ∀ (x1 : Int32) (σ : Mem), JO G mX12_unit (d + 3) 2 [some (.ref (G.1 + off 1000)), some (.int x1), none] [] σ rV (k2 x1 σ)) : ∀ (x1 : Int32) (σ : Mem), JO G mX12_unit (d + 3) 53 [some (.ref (G.1 + off 1000)), some (.int x1), none] [] σ rV (X12_unit_53 k2 x1 σ) := by
  intro x1 σ
  unfold X12_unit_53
  refine JO_aload_n (pc := 53) dX12_unit_53 rfl ?_
  refine JO_getI (pc := 54) fl_X12_199 rfl fkX12_sort dX12_unit_54 ?_
  refine JO_bipush (pc := 57) (a := 40) dX12_unit_57 (by decide) ?_
  refine JO_icmp_ne (pc := 59) (tgt := 96) dX12_unit_59 (by decide) ?_ ?_
  · refine JO_iconst (pc := 96) (a := 0) dX12_unit_96 (by decide) ?_
    refine JO_nm (fun v7 => ?_)
    refine JO_istore_n (pc := 97) (L' := [some (.ref (G.1 + off 1000)), some (.int v7), none]) dX12_unit_97 rfl rfl rfl ?_
    refine JO_goto (pc := 98) (tgt := 2) dX12_unit_98 (by decide) ?_
    exact JO_sub (l_sub_some (l_sub_some (l_sub_none (l_sub_nil)))) (hk2 v7 σ)
  · refine JO_aload_n (pc := 62) dX12_unit_62 rfl ?_
    refine JO_callVi (pc := 63) [] lk_X12_318 rfl (ci := 12) rfl shX12 (w_X12_isFull G (d + 2)  σ) rfl rfl (Nat.le_of_ble_eq_true rfl) dX12_unit_63 (fun r8 => ?_)
    refine JO_if_ne (pc := 66) (tgt := 78) dX12_unit_66 (by decide) ?_ ?_
    · exact JO_sub (l_sub_some (l_sub_some (l_sub_none (l_sub_nil)))) (w_X12_unit_78 G d _ (w_X12_unit_83 G d _ (hk2)) x1 r8.2)
    · refine JO_aload_n (pc := 69) dX12_unit_69 rfl ?_
      refine JO_getI (pc := 70) fl_X12_303 rfl fkX12_deep dX12_unit_70 ?_
      refine JO_bipush (pc := 73) (a := 6) dX12_unit_73 (by decide) ?_
      refine JO_icmp_le (pc := 75) (tgt := 83) dX12_unit_75 (by decide) ?_ ?_
      · exact JO_sub (l_sub_some (l_sub_some (l_sub_none (l_sub_nil)))) (w_X12_unit_83 G d _ (hk2) x1 r8.2)
      · exact JO_sub (l_sub_some (l_sub_some (l_sub_none (l_sub_nil)))) (w_X12_unit_78 G d _ (w_X12_unit_83 G d _ (hk2)) x1 r8.2)
set_option maxHeartbeats 4000000 in
set_option maxRecDepth 100000 in
theorem w_X12_unit_101 (G : JG) (d : Nat) : ∀ (σ : Mem), JO G mX12_unit (d + 3) 101 [some (.ref (G.1 + off 1000)), none, none] [] σ rV (X12_unit_101 σ) := by
  intro σ
  unfold X12_unit_101
  refine JO_aload_n (pc := 101) dX12_unit_101 rfl ?_
  refine JO_getI (pc := 102) fl_X12_212 rfl fkX12_fault dX12_unit_102 ?_
  refine JO_if_le (pc := 105) (tgt := 109) dX12_unit_105 (by decide) ?_ ?_
  · refine JO_aload_n (pc := 109) dX12_unit_109 rfl ?_
    refine JO_callVi (pc := 110) [] lk_X12_324 rfl (ci := 12) rfl shX12 (w_X12_asked G (d + 2)  σ) rfl rfl (Nat.le_of_ble_eq_true rfl) dX12_unit_110 (fun r5 => ?_)
    refine JO_nm (fun v6 => ?_)
    refine JO_istore_n (pc := 113) (L' := [some (.ref (G.1 + off 1000)), none, some (.int v6)]) dX12_unit_113 rfl rfl rfl ?_
    refine JO_aload_n (pc := 114) dX12_unit_114 rfl ?_
    refine JO_getI (pc := 115) fl_X12_199 rfl fkX12_sort dX12_unit_115 ?_
    refine JO_iconst (pc := 118) (a := 2) dX12_unit_118 (by decide) ?_
    refine JO_icmp_eq (pc := 119) (tgt := 126) dX12_unit_119 (by decide) ?_ ?_
    · exact JO_sub (l_sub_some (l_sub_none (l_sub_some (l_sub_nil)))) (w_X12_unit_126 G d _ _ (w_X12_unit_133 G d _ (w_X12_unit_138 G d)) (w_X12_unit_138 G d) v6 r5.2)
    · refine JO_iload_n (pc := 122) dX12_unit_122 rfl ?_
      refine JO_if_lt (pc := 123) (tgt := 133) dX12_unit_123 (by decide) ?_ ?_
      · exact JO_sub (l_sub_some (l_sub_none (l_sub_some (l_sub_nil)))) (w_X12_unit_133 G d _ (w_X12_unit_138 G d) v6 r5.2)
      · exact JO_sub (l_sub_some (l_sub_none (l_sub_some (l_sub_nil)))) (w_X12_unit_126 G d _ _ (w_X12_unit_133 G d _ (w_X12_unit_138 G d)) (w_X12_unit_138 G d) v6 r5.2)
  · exact JO_retv (pc := 108) rfl dX12_unit_108
set_option maxHeartbeats 4000000 in
set_option maxRecDepth 100000 in
theorem w_X12_unit_2 (G : JG) (d : Nat) : ∀ (n : Nat) (x1 : Int32) (σ : Mem), JO G mX12_unit (d + 3) 2 [some (.ref (G.1 + off 1000)), some (.int x1), none] [] σ rV (X12_unit_2 n x1 σ) := by
  intro n
  induction n with
  | zero =>
    intro x1 σ
    exact JO_none
  | succ n ih =>
    intro x1 σ
    rw [X12_unit_2]
    refine JO_iload_n (pc := 2) dX12_unit_2 rfl ?_
    refine JO_if_eq (pc := 3) (tgt := 101) dX12_unit_3 (by decide) ?_ ?_
    · exact JO_sub (l_sub_some (l_sub_none (l_sub_none (l_sub_nil)))) (w_X12_unit_101 G d  σ)
    · refine JO_aload_n (pc := 6) dX12_unit_6 rfl ?_
      refine JO_getI (pc := 7) fl_X12_212 rfl fkX12_fault dX12_unit_7 ?_
      refine JO_if_ne (pc := 10) (tgt := 101) dX12_unit_10 (by decide) ?_ ?_
      · exact JO_sub (l_sub_some (l_sub_none (l_sub_none (l_sub_nil)))) (w_X12_unit_101 G d  σ)
      · refine JO_aload_n (pc := 13) dX12_unit_13 rfl ?_
        refine JO_ldc2 (pc := 14) kc_X12_259 rfl dX12_unit_14 ?_
        refine JO_callVi (pc := 17) [.long 7237492] lk_X12_265 rfl (ci := 12) rfl shX12 (w_X12_isWord G (d + 2) 7237492 σ) rfl rfl (Nat.le_of_ble_eq_true rfl) dX12_unit_17 (fun r2 => ?_)
        refine JO_if_eq (pc := 20) (tgt := 53) dX12_unit_20 (by decide) ?_ ?_
        · exact JO_sub (l_sub_some (l_sub_some (l_sub_none (l_sub_nil)))) (w_X12_unit_53 G d _ (ih) x1 r2.2)
        · refine JO_aload_n (pc := 23) dX12_unit_23 rfl ?_
          refine JO_callVi (pc := 24) [] lk_X12_312 rfl (ci := 12) rfl shX12 (w_X12_mayNot G (d + 1)  r2.2) rfl rfl (Nat.le_of_ble_eq_true rfl) dX12_unit_24 (fun r3 => ?_)
          refine JO_if_eq (pc := 27) (tgt := 53) dX12_unit_27 (by decide) ?_ ?_
          · exact JO_sub (l_sub_some (l_sub_some (l_sub_none (l_sub_nil)))) (w_X12_unit_53 G d _ (ih) x1 r3.2)
          · refine JO_aload_n (pc := 30) dX12_unit_30 rfl ?_
            refine JO_getI (pc := 31) fl_X12_303 rfl fkX12_deep dX12_unit_31 ?_
            refine JO_bipush (pc := 34) (a := 6) dX12_unit_34 (by decide) ?_
            refine JO_icmp_le (pc := 36) (tgt := 44) dX12_unit_36 (by decide) ?_ ?_
            · exact JO_sub (l_sub_some (l_sub_some (l_sub_none (l_sub_nil)))) (w_X12_unit_44 G d _ (ih) x1 r3.2)
            · refine JO_aload_n (pc := 39) dX12_unit_39 rfl ?_
              refine JO_iconst (pc := 40) (a := 2) dX12_unit_40 (by decide) ?_
              refine JO_callVv (pc := 41) [.int 2] lk_X12_269 rfl (ci := 12) rfl shX12 (w_X12_wrong G (d + 2) 2 r3.2) rfl rfl (Nat.le_of_ble_eq_true rfl) dX12_unit_41 (fun σ4 => ?_)
              exact JO_sub (l_sub_some (l_sub_some (l_sub_none (l_sub_nil)))) (w_X12_unit_44 G d _ (ih) x1 σ4)
set_option maxHeartbeats 4000000 in
set_option maxRecDepth 100000 in
theorem w_X12_unit (G : JG) (d : Nat) (σ : Mem) : JS G mX12_unit (d + 3) [.ref (G.1 + off 1000)] σ rV (X12_unit σ) := by
  refine JS_of 2 (by decide +kernel) (Nat.le_of_ble_eq_true rfl) (L := [some (.ref (G.1 + off 1000)), none, none]) rfl ?_
  unfold X12_unit
  refine JO_iconst (pc := 0) (a := 1) dX12_unit_0 (by decide) ?_
  refine JO_nm (fun v1 => ?_)
  refine JO_istore_n (pc := 1) (L' := [some (.ref (G.1 + off 1000)), some (.int v1), none]) dX12_unit_1 rfl rfl rfl ?_
  exact JO_sub (l_sub_some (l_sub_some (l_sub_none (l_sub_nil)))) (w_X12_unit_2 G d fu v1 σ)
set_option maxHeartbeats 4000000 in
set_option maxRecDepth 100000 in
theorem w_X12_sign (G : JG) (d : Nat) (σ : Mem) : JS G mX12_sign (d + 1) [.ref (G.1 + off 1000)] σ rI (X12_sign σ) := by
  refine JS_of 0 (by decide +kernel) (Nat.le_of_ble_eq_true rfl) (L := [some (.ref (G.1 + off 1000))]) rfl ?_
  unfold X12_sign
  refine JO_aload_n (pc := 0) dX12_sign_0 rfl ?_
  refine JO_ldc2 (pc := 1) kc_X12_255 rfl dX12_sign_1 ?_
  refine JO_callVi (pc := 4) [.long 6385252] lk_X12_265 rfl (ci := 12) rfl shX12 (w_X12_isWord G d 6385252 σ) rfl rfl (Nat.le_of_ble_eq_true rfl) dX12_sign_4 (fun r1 => ?_)
  refine JO_if_eq (pc := 7) (tgt := 13) dX12_sign_7 (by decide) ?_ ?_
  · refine JO_aload_n (pc := 13) dX12_sign_13 rfl ?_
    refine JO_ldc2 (pc := 14) kc_X12_257 rfl dX12_sign_14 ?_
    refine JO_callVi (pc := 17) [.long 28530] lk_X12_265 rfl (ci := 12) rfl shX12 (w_X12_isWord G d 28530 r1.2) rfl rfl (Nat.le_of_ble_eq_true rfl) dX12_sign_17 (fun r2 => ?_)
    refine JO_if_eq (pc := 20) (tgt := 26) dX12_sign_20 (by decide) ?_ ?_
    · refine JO_aload_n (pc := 26) dX12_sign_26 rfl ?_
      refine JO_getI (pc := 27) fl_X12_199 rfl fkX12_sort dX12_sign_27 ?_
      refine JO_bipush (pc := 30) (a := 60) dX12_sign_30 (by decide) ?_
      refine JO_icmp_eq (pc := 32) (tgt := 98) dX12_sign_32 (by decide) ?_ ?_
      · refine JO_aload_n (pc := 98) dX12_sign_98 rfl ?_
        refine JO_getI (pc := 99) fl_X12_199 rfl fkX12_sort dX12_sign_99 ?_
        refine JO_goto (pc := 102) (tgt := 106) dX12_sign_102 (by decide) ?_
        exact JO_reti (pc := 106) rfl dX12_sign_106
      · refine JO_aload_n (pc := 35) dX12_sign_35 rfl ?_
        refine JO_getI (pc := 36) fl_X12_199 rfl fkX12_sort dX12_sign_36 ?_
        refine JO_bipush (pc := 39) (a := 62) dX12_sign_39 (by decide) ?_
        refine JO_icmp_eq (pc := 41) (tgt := 98) dX12_sign_41 (by decide) ?_ ?_
        · refine JO_aload_n (pc := 98) dX12_sign_98 rfl ?_
          refine JO_getI (pc := 99) fl_X12_199 rfl fkX12_sort dX12_sign_99 ?_
          refine JO_goto (pc := 102) (tgt := 106) dX12_sign_102 (by decide) ?_
          exact JO_reti (pc := 106) rfl dX12_sign_106
        · refine JO_aload_n (pc := 44) dX12_sign_44 rfl ?_
          refine JO_getI (pc := 45) fl_X12_199 rfl fkX12_sort dX12_sign_45 ?_
          refine JO_bipush (pc := 48) (a := 61) dX12_sign_48 (by decide) ?_
          refine JO_icmp_eq (pc := 50) (tgt := 98) dX12_sign_50 (by decide) ?_ ?_
          · refine JO_aload_n (pc := 98) dX12_sign_98 rfl ?_
            refine JO_getI (pc := 99) fl_X12_199 rfl fkX12_sort dX12_sign_99 ?_
            refine JO_goto (pc := 102) (tgt := 106) dX12_sign_102 (by decide) ?_
            exact JO_reti (pc := 106) rfl dX12_sign_106
          · refine JO_aload_n (pc := 53) dX12_sign_53 rfl ?_
            refine JO_getI (pc := 54) fl_X12_199 rfl fkX12_sort dX12_sign_54 ?_
            refine JO_bipush (pc := 57) (a := 43) dX12_sign_57 (by decide) ?_
            refine JO_icmp_eq (pc := 59) (tgt := 98) dX12_sign_59 (by decide) ?_ ?_
            · refine JO_aload_n (pc := 98) dX12_sign_98 rfl ?_
              refine JO_getI (pc := 99) fl_X12_199 rfl fkX12_sort dX12_sign_99 ?_
              refine JO_goto (pc := 102) (tgt := 106) dX12_sign_102 (by decide) ?_
              exact JO_reti (pc := 106) rfl dX12_sign_106
            · refine JO_aload_n (pc := 62) dX12_sign_62 rfl ?_
              refine JO_getI (pc := 63) fl_X12_199 rfl fkX12_sort dX12_sign_63 ?_
              refine JO_bipush (pc := 66) (a := 45) dX12_sign_66 (by decide) ?_
              refine JO_icmp_eq (pc := 68) (tgt := 98) dX12_sign_68 (by decide) ?_ ?_
              · refine JO_aload_n (pc := 98) dX12_sign_98 rfl ?_
                refine JO_getI (pc := 99) fl_X12_199 rfl fkX12_sort dX12_sign_99 ?_
                refine JO_goto (pc := 102) (tgt := 106) dX12_sign_102 (by decide) ?_
                exact JO_reti (pc := 106) rfl dX12_sign_106
              · refine JO_aload_n (pc := 71) dX12_sign_71 rfl ?_
                refine JO_getI (pc := 72) fl_X12_199 rfl fkX12_sort dX12_sign_72 ?_
                refine JO_bipush (pc := 75) (a := 42) dX12_sign_75 (by decide) ?_
                refine JO_icmp_eq (pc := 77) (tgt := 98) dX12_sign_77 (by decide) ?_ ?_
                · refine JO_aload_n (pc := 98) dX12_sign_98 rfl ?_
                  refine JO_getI (pc := 99) fl_X12_199 rfl fkX12_sort dX12_sign_99 ?_
                  refine JO_goto (pc := 102) (tgt := 106) dX12_sign_102 (by decide) ?_
                  exact JO_reti (pc := 106) rfl dX12_sign_106
                · refine JO_aload_n (pc := 80) dX12_sign_80 rfl ?_
                  refine JO_getI (pc := 81) fl_X12_199 rfl fkX12_sort dX12_sign_81 ?_
                  refine JO_bipush (pc := 84) (a := 47) dX12_sign_84 (by decide) ?_
                  refine JO_icmp_eq (pc := 86) (tgt := 98) dX12_sign_86 (by decide) ?_ ?_
                  · refine JO_aload_n (pc := 98) dX12_sign_98 rfl ?_
                    refine JO_getI (pc := 99) fl_X12_199 rfl fkX12_sort dX12_sign_99 ?_
                    refine JO_goto (pc := 102) (tgt := 106) dX12_sign_102 (by decide) ?_
                    exact JO_reti (pc := 106) rfl dX12_sign_106
                  · refine JO_aload_n (pc := 89) dX12_sign_89 rfl ?_
                    refine JO_getI (pc := 90) fl_X12_199 rfl fkX12_sort dX12_sign_90 ?_
                    refine JO_bipush (pc := 93) (a := 37) dX12_sign_93 (by decide) ?_
                    refine JO_icmp_ne (pc := 95) (tgt := 105) dX12_sign_95 (by decide) ?_ ?_
                    · refine JO_iconst (pc := 105) (a := 0) dX12_sign_105 (by decide) ?_
                      exact JO_reti (pc := 106) rfl dX12_sign_106
                    · refine JO_aload_n (pc := 98) dX12_sign_98 rfl ?_
                      refine JO_getI (pc := 99) fl_X12_199 rfl fkX12_sort dX12_sign_99 ?_
                      refine JO_goto (pc := 102) (tgt := 106) dX12_sign_102 (by decide) ?_
                      exact JO_reti (pc := 106) rfl dX12_sign_106
    · refine JO_bipush (pc := 23) (a := 124) dX12_sign_23 (by decide) ?_
      exact JO_reti (pc := 25) rfl dX12_sign_25
  · refine JO_bipush (pc := 10) (a := 38) dX12_sign_10 (by decide) ?_
    exact JO_reti (pc := 12) rfl dX12_sign_12
set_option maxHeartbeats 4000000 in
set_option maxRecDepth 100000 in
theorem w_X12_hasBracket_27 (G : JG) (d : Nat) (k32 : Int32 → Int32 → Mem → Option (Int32 × Mem)) (hk32 : ∀ (x2 : Int32) (s0 : Int32) (σ : Mem), JO G mX12_hasBracket d 32 [some (.ref (G.1 + off 1000)), none, some (.int x2)] [.int s0] σ rI (k32 x2 s0 σ)) : ∀ (x2 : Int32) (σ : Mem), JO G mX12_hasBracket d 27 [some (.ref (G.1 + off 1000)), none, some (.int x2)] [] σ rI (X12_hasBracket_27 k32 x2 σ) := by
  intro x2 σ
  unfold X12_hasBracket_27
  refine JO_iconst (pc := 27) (a := 1) dX12_hasBracket_27 (by decide) ?_
  refine JO_goto (pc := 28) (tgt := 32) dX12_hasBracket_28 (by decide) ?_
  exact JO_sub (l_sub_some (l_sub_none (l_sub_some (l_sub_nil)))) (hk32 x2 1 σ)
set_option maxHeartbeats 4000000 in
set_option maxRecDepth 100000 in
theorem w_X12_hasBracket_32 (G : JG) (d : Nat) (k4 : Int32 → Int32 → Mem → Option (Int32 × Mem)) (hk4 : ∀ (x1 : Int32) (x2 : Int32) (σ : Mem), JO G mX12_hasBracket d 4 [some (.ref (G.1 + off 1000)), some (.int x1), some (.int x2)] [] σ rI (k4 x1 x2 σ)) : ∀ (x2 : Int32) (s0 : Int32) (σ : Mem), JO G mX12_hasBracket d 32 [some (.ref (G.1 + off 1000)), none, some (.int x2)] [.int s0] σ rI (X12_hasBracket_32 k4 x2 s0 σ) := by
  intro x2 s0 σ
  unfold X12_hasBracket_32
  refine JO_istore_n (pc := 32) (L' := [some (.ref (G.1 + off 1000)), some (.int s0), some (.int x2)]) dX12_hasBracket_32 rfl rfl rfl ?_
  refine JO_inc (pc := 33) (b := 1) (L' := fun v3 => [some (.ref (G.1 + off 1000)), some (.int s0), some (.int v3)]) dX12_hasBracket_33 rfl rfl (by decide) rfl (fun _ => rfl) (fun v3 => ?_)
  refine JO_goto (pc := 36) (tgt := 4) dX12_hasBracket_36 (by decide) ?_
  exact JO_sub (l_sub_some (l_sub_some (l_sub_some (l_sub_nil)))) (hk4 s0 v3 σ)
set_option maxHeartbeats 4000000 in
set_option maxRecDepth 100000 in
theorem w_X12_hasBracket_4 (G : JG) (d : Nat) : ∀ (n : Nat) (x1 : Int32) (x2 : Int32) (σ : Mem), JO G mX12_hasBracket d 4 [some (.ref (G.1 + off 1000)), some (.int x1), some (.int x2)] [] σ rI (X12_hasBracket_4 n x1 x2 σ) := by
  intro n
  induction n with
  | zero =>
    intro x1 x2 σ
    exact JO_none
  | succ n ih =>
    intro x1 x2 σ
    rw [X12_hasBracket_4]
    refine JO_iload_n (pc := 4) dX12_hasBracket_4 rfl ?_
    refine JO_aload_n (pc := 5) dX12_hasBracket_5 rfl ?_
    refine JO_getI (pc := 6) fl_X12_293 rfl fkX12_opens dX12_hasBracket_6 ?_
    refine JO_icmp_ge (pc := 9) (tgt := 39) dX12_hasBracket_9 (by decide) ?_ ?_
    · refine JO_iload_n (pc := 39) dX12_hasBracket_39 rfl ?_
      exact JO_retz (pc := 40) rfl dX12_hasBracket_40
    · refine JO_iload_n (pc := 12) dX12_hasBracket_12 rfl ?_
      refine JO_if_ne (pc := 13) (tgt := 27) dX12_hasBracket_13 (by decide) ?_ ?_
      · exact JO_sub (l_sub_some (l_sub_none (l_sub_some (l_sub_nil)))) (w_X12_hasBracket_27 G d _ (w_X12_hasBracket_32 G d _ (ih)) x2 σ)
      · refine JO_aload_n (pc := 16) dX12_hasBracket_16 rfl ?_
        refine JO_getR (pc := 17) fl_X12_39 rfl fkX12_open dX12_hasBracket_17 ?_
        refine JO_iload_n (pc := 20) dX12_hasBracket_20 rfl ?_
        refine JO_iald (pc := 21) akX12_open dX12_hasBracket_21 ?_
        refine JO_bipush (pc := 22) (a := 20) dX12_hasBracket_22 (by decide) ?_
        refine JO_icmp_ne (pc := 24) (tgt := 31) dX12_hasBracket_24 (by decide) ?_ ?_
        · refine JO_iconst (pc := 31) (a := 0) dX12_hasBracket_31 (by decide) ?_
          exact JO_sub (l_sub_some (l_sub_none (l_sub_some (l_sub_nil)))) (w_X12_hasBracket_32 G d _ (ih) x2 0 σ)
        · exact JO_sub (l_sub_some (l_sub_none (l_sub_some (l_sub_nil)))) (w_X12_hasBracket_27 G d _ (w_X12_hasBracket_32 G d _ (ih)) x2 σ)
set_option maxHeartbeats 4000000 in
set_option maxRecDepth 100000 in
theorem w_X12_hasBracket (G : JG) (d : Nat) (σ : Mem) : JS G mX12_hasBracket d [.ref (G.1 + off 1000)] σ rI (X12_hasBracket σ) := by
  refine JS_of 2 (by decide +kernel) (Nat.le_of_ble_eq_true rfl) (L := [some (.ref (G.1 + off 1000)), none, none]) rfl ?_
  unfold X12_hasBracket
  refine JO_iconst (pc := 0) (a := 0) dX12_hasBracket_0 (by decide) ?_
  refine JO_nm (fun v1 => ?_)
  refine JO_istore_n (pc := 1) (L' := [some (.ref (G.1 + off 1000)), some (.int v1), none]) dX12_hasBracket_1 rfl rfl rfl ?_
  refine JO_iconst (pc := 2) (a := 0) dX12_hasBracket_2 (by decide) ?_
  refine JO_nm (fun v2 => ?_)
  refine JO_istore_n (pc := 3) (L' := [some (.ref (G.1 + off 1000)), some (.int v1), some (.int v2)]) dX12_hasBracket_3 rfl rfl rfl ?_
  exact JO_sub (l_sub_some (l_sub_some (l_sub_some (l_sub_nil)))) (w_X12_hasBracket_4 G d fu v1 v2 σ)
set_option maxHeartbeats 4000000 in
set_option maxRecDepth 100000 in
theorem w_X12_formula_123 (G : JG) (d : Nat) (k164 : Int32 → Mem → Option Mem) (hk164 : ∀ (x2 : Int32) (σ : Mem), JO G mX12_formula (d + 4) 164 [some (.ref (G.1 + off 1000)), none, some (.int x2), none] [] σ rV (k164 x2 σ)) : ∀ (x2 : Int32) (x3 : Int32) (σ : Mem), JO G mX12_formula (d + 4) 123 [some (.ref (G.1 + off 1000)), none, some (.int x2), some (.int x3)] [] σ rV (X12_formula_123 k164 x2 x3 σ) := by
  intro x2 x3 σ
  unfold X12_formula_123
  refine JO_aload_n (pc := 123) dX12_formula_123 rfl ?_
  refine JO_iload_n (pc := 124) dX12_formula_124 rfl ?_
  refine JO_callSi (pc := 125) [.int x3] lk_X12_296 rfl (w_X12_tight G (d + 3) x3 σ) rfl rfl (Nat.le_of_ble_eq_true rfl) dX12_formula_125 (fun r22 => ?_)
  refine JO_callVv (pc := 128) [.int r22.1] lk_X12_337 rfl (ci := 12) rfl shX12 (w_X12_close G (d + 2) r22.1 r22.2) rfl rfl (Nat.le_of_ble_eq_true rfl) dX12_formula_128 (fun σ23 => ?_)
  refine JO_aload_n (pc := 131) dX12_formula_131 rfl ?_
  refine JO_getR (pc := 132) fl_X12_39 rfl fkX12_open dX12_formula_132 ?_
  refine JO_aload_n (pc := 135) dX12_formula_135 rfl ?_
  refine JO_getI (pc := 136) fl_X12_293 rfl fkX12_opens dX12_formula_136 ?_
  refine JO_iload_n (pc := 139) dX12_formula_139 rfl ?_
  refine JO_iast (pc := 140) akX12_open dX12_formula_140 (fun σ24 => ?_)
  refine JO_aload_n (pc := 141) dX12_formula_141 rfl ?_
  refine JO_dup (pc := 142) dX12_formula_142 rfl ?_
  refine JO_getI (pc := 143) fl_X12_293 rfl fkX12_opens dX12_formula_143 ?_
  refine JO_iconst (pc := 146) (a := 1) dX12_formula_146 (by decide) ?_
  refine JO_iadd (pc := 147) dX12_formula_147 ?_
  refine JO_putI (pc := 148) fl_X12_293 rfl fkX12_opens dX12_formula_148 (fun σ25 => ?_)
  refine JO_aload_n (pc := 151) dX12_formula_151 rfl ?_
  refine JO_callVv (pc := 152) [] lk_X12_272 rfl (ci := 12) rfl shX12 (w_X12_token G (d + 2)  σ25) rfl rfl (Nat.le_of_ble_eq_true rfl) dX12_formula_152 (fun σ26 => ?_)
  refine JO_aload_n (pc := 155) dX12_formula_155 rfl ?_
  refine JO_callVv (pc := 156) [] lk_X12_328 rfl (ci := 12) rfl shX12 (w_X12_unit G d  σ26) rfl rfl (Nat.le_of_ble_eq_true rfl) dX12_formula_156 (fun σ27 => ?_)
  refine JO_goto (pc := 159) (tgt := 164) dX12_formula_159 (by decide) ?_
  exact JO_sub (l_sub_some (l_sub_none (l_sub_some (l_sub_none (l_sub_nil))))) (hk164 x2 σ27)
set_option maxHeartbeats 4000000 in
set_option maxRecDepth 100000 in
theorem w_X12_formula_162 (G : JG) (d : Nat) (k164 : Int32 → Mem → Option Mem) (hk164 : ∀ (x2 : Int32) (σ : Mem), JO G mX12_formula (d + 4) 164 [some (.ref (G.1 + off 1000)), none, some (.int x2), none] [] σ rV (k164 x2 σ)) : ∀ (σ : Mem), JO G mX12_formula (d + 4) 162 [some (.ref (G.1 + off 1000)), none, none, none] [] σ rV (X12_formula_162 k164 σ) := by
  intro σ
  unfold X12_formula_162
  refine JO_iconst (pc := 162) (a := 0) dX12_formula_162 (by decide) ?_
  refine JO_nm (fun v21 => ?_)
  refine JO_istore_n (pc := 163) (L' := [some (.ref (G.1 + off 1000)), none, some (.int v21), none]) dX12_formula_163 rfl rfl rfl ?_
  exact JO_sub (l_sub_some (l_sub_none (l_sub_some (l_sub_none (l_sub_nil))))) (hk164 v21 σ)
set_option maxHeartbeats 4000000 in
set_option maxRecDepth 100000 in
theorem w_X12_formula_104 (G : JG) (d : Nat) (k164 : Int32 → Mem → Option Mem) (hk164 : ∀ (x2 : Int32) (σ : Mem), JO G mX12_formula (d + 4) 164 [some (.ref (G.1 + off 1000)), none, some (.int x2), none] [] σ rV (k164 x2 σ)) : ∀ (x2 : Int32) (x3 : Int32) (σ : Mem), JO G mX12_formula (d + 4) 104 [some (.ref (G.1 + off 1000)), none, some (.int x2), some (.int x3)] [] σ rV (X12_formula_104 k164 x2 x3 σ) := by
  intro x2 x3 σ
  unfold X12_formula_104
  refine JO_iload_n (pc := 104) dX12_formula_104 rfl ?_
  refine JO_if_eq (pc := 105) (tgt := 162) dX12_formula_105 (by decide) ?_ ?_
  · exact JO_sub (l_sub_some (l_sub_none (l_sub_none (l_sub_none (l_sub_nil))))) (w_X12_formula_162 G d _ (hk164)  σ)
  · refine JO_iload_n (pc := 108) dX12_formula_108 rfl ?_
    refine JO_callSi (pc := 109) [.int x3] lk_X12_296 rfl (w_X12_tight G (d + 3) x3 σ) rfl rfl (Nat.le_of_ble_eq_true rfl) dX12_formula_109 (fun r18 => ?_)
    refine JO_iconst (pc := 112) (a := 4) dX12_formula_112 (by decide) ?_
    refine JO_icmp_ne (pc := 113) (tgt := 123) dX12_formula_113 (by decide) ?_ ?_
    · exact JO_sub (l_sub_some (l_sub_none (l_sub_some (l_sub_some (l_sub_nil))))) (w_X12_formula_123 G d _ (hk164) x2 x3 r18.2)
    · refine JO_aload_n (pc := 116) dX12_formula_116 rfl ?_
      refine JO_callVi (pc := 117) [] lk_X12_340 rfl (ci := 12) rfl shX12 (w_X12_hasRelation G (d + 2)  r18.2) rfl rfl (Nat.le_of_ble_eq_true rfl) dX12_formula_117 (fun r19 => ?_)
      refine JO_if_ne (pc := 120) (tgt := 162) dX12_formula_120 (by decide) ?_ ?_
      · exact JO_sub (l_sub_some (l_sub_none (l_sub_none (l_sub_none (l_sub_nil))))) (w_X12_formula_162 G d _ (hk164)  r19.2)
      · exact JO_sub (l_sub_some (l_sub_none (l_sub_some (l_sub_some (l_sub_nil))))) (w_X12_formula_123 G d _ (hk164) x2 x3 r19.2)
set_option maxHeartbeats 4000000 in
set_option maxRecDepth 100000 in
theorem w_X12_formula_164 (G : JG) (d : Nat) (k40 : Int32 → Mem → Option Mem) (hk40 : ∀ (x2 : Int32) (σ : Mem), JO G mX12_formula (d + 4) 40 [some (.ref (G.1 + off 1000)), none, some (.int x2), none] [] σ rV (k40 x2 σ)) : ∀ (x2 : Int32) (σ : Mem), JO G mX12_formula (d + 4) 164 [some (.ref (G.1 + off 1000)), none, some (.int x2), none] [] σ rV (X12_formula_164 k40 x2 σ) := by
  intro x2 σ
  unfold X12_formula_164
  refine JO_goto (pc := 164) (tgt := 40) dX12_formula_164 (by decide) ?_
  exact JO_sub (l_sub_some (l_sub_none (l_sub_some (l_sub_none (l_sub_nil))))) (hk40 x2 σ)
set_option maxHeartbeats 4000000 in
set_option maxRecDepth 100000 in
theorem w_X12_formula_186 (G : JG) (d : Nat) : ∀ (σ : Mem), JO G mX12_formula (d + 4) 186 [some (.ref (G.1 + off 1000)), none, none, none] [] σ rV (X12_formula_186 σ) := by
  intro σ
  unfold X12_formula_186
  refine JO_aload_n (pc := 186) dX12_formula_186 rfl ?_
  refine JO_getI (pc := 187) fl_X12_212 rfl fkX12_fault dX12_formula_187 ?_
  refine JO_if_ne (pc := 190) (tgt := 198) dX12_formula_190 (by decide) ?_ ?_
  · exact JO_retv (pc := 198) rfl dX12_formula_198
  · refine JO_aload_n (pc := 193) dX12_formula_193 rfl ?_
    refine JO_iconst (pc := 194) (a := 0) dX12_formula_194 (by decide) ?_
    refine JO_callVv (pc := 195) [.int 0] lk_X12_337 rfl (ci := 12) rfl shX12 (w_X12_close G (d + 2) 0 σ) rfl rfl (Nat.le_of_ble_eq_true rfl) dX12_formula_195 (fun σ20 => ?_)
    exact JO_retv (pc := 198) rfl dX12_formula_198
set_option maxHeartbeats 4000000 in
set_option maxRecDepth 100000 in
theorem w_X12_formula_167 (G : JG) (d : Nat) : ∀ (σ : Mem), JO G mX12_formula (d + 4) 167 [some (.ref (G.1 + off 1000)), none, none, none] [] σ rV (X12_formula_167 σ) := by
  intro σ
  unfold X12_formula_167
  refine JO_aload_n (pc := 167) dX12_formula_167 rfl ?_
  refine JO_getI (pc := 168) fl_X12_212 rfl fkX12_fault dX12_formula_168 ?_
  refine JO_if_ne (pc := 171) (tgt := 186) dX12_formula_171 (by decide) ?_ ?_
  · exact JO_sub (l_sub_some (l_sub_none (l_sub_none (l_sub_none (l_sub_nil))))) (w_X12_formula_186 G d  σ)
  · refine JO_aload_n (pc := 174) dX12_formula_174 rfl ?_
    refine JO_callVi (pc := 175) [] lk_X12_334 rfl (ci := 12) rfl shX12 (w_X12_hasBracket G (d + 3)  σ) rfl rfl (Nat.le_of_ble_eq_true rfl) dX12_formula_175 (fun r16 => ?_)
    refine JO_if_eq (pc := 178) (tgt := 186) dX12_formula_178 (by decide) ?_ ?_
    · exact JO_sub (l_sub_some (l_sub_none (l_sub_none (l_sub_none (l_sub_nil))))) (w_X12_formula_186 G d  r16.2)
    · refine JO_aload_n (pc := 181) dX12_formula_181 rfl ?_
      refine JO_iconst (pc := 182) (a := 2) dX12_formula_182 (by decide) ?_
      refine JO_callVv (pc := 183) [.int 2] lk_X12_269 rfl (ci := 12) rfl shX12 (w_X12_wrong G (d + 3) 2 r16.2) rfl rfl (Nat.le_of_ble_eq_true rfl) dX12_formula_183 (fun σ17 => ?_)
      exact JO_sub (l_sub_some (l_sub_none (l_sub_none (l_sub_none (l_sub_nil))))) (w_X12_formula_186 G d  σ17)
set_option maxHeartbeats 4000000 in
set_option maxRecDepth 100000 in
theorem w_X12_formula_40 (G : JG) (d : Nat) : ∀ (n : Nat) (x2 : Int32) (σ : Mem), JO G mX12_formula (d + 4) 40 [some (.ref (G.1 + off 1000)), none, some (.int x2), none] [] σ rV (X12_formula_40 n x2 σ) := by
  intro n
  induction n with
  | zero =>
    intro x2 σ
    exact JO_none
  | succ n ih =>
    intro x2 σ
    rw [X12_formula_40]
    refine JO_iload_n (pc := 40) dX12_formula_40 rfl ?_
    refine JO_if_eq (pc := 41) (tgt := 167) dX12_formula_41 (by decide) ?_ ?_
    · exact JO_sub (l_sub_some (l_sub_none (l_sub_none (l_sub_none (l_sub_nil))))) (w_X12_formula_167 G d  σ)
    · refine JO_aload_n (pc := 44) dX12_formula_44 rfl ?_
      refine JO_getI (pc := 45) fl_X12_212 rfl fkX12_fault dX12_formula_45 ?_
      refine JO_if_ne (pc := 48) (tgt := 167) dX12_formula_48 (by decide) ?_ ?_
      · exact JO_sub (l_sub_some (l_sub_none (l_sub_none (l_sub_none (l_sub_nil))))) (w_X12_formula_167 G d  σ)
      · refine JO_aload_n (pc := 51) dX12_formula_51 rfl ?_
        refine JO_callVi (pc := 52) [] lk_X12_331 rfl (ci := 12) rfl shX12 (w_X12_sign G (d + 2)  σ) rfl rfl (Nat.le_of_ble_eq_true rfl) dX12_formula_52 (fun r9 => ?_)
        refine JO_nm (fun v10 => ?_)
        refine JO_istore_n (pc := 55) (L' := [some (.ref (G.1 + off 1000)), none, some (.int x2), some (.int v10)]) dX12_formula_55 rfl rfl rfl ?_
        refine JO_aload_n (pc := 56) dX12_formula_56 rfl ?_
        refine JO_getI (pc := 57) fl_X12_199 rfl fkX12_sort dX12_formula_57 ?_
        refine JO_bipush (pc := 60) (a := 41) dX12_formula_60 (by decide) ?_
        refine JO_icmp_ne (pc := 62) (tgt := 104) dX12_formula_62 (by decide) ?_ ?_
        · exact JO_sub (l_sub_some (l_sub_none (l_sub_some (l_sub_some (l_sub_nil))))) (w_X12_formula_104 G d _ (w_X12_formula_164 G d _ (ih)) x2 v10 r9.2)
        · refine JO_aload_n (pc := 65) dX12_formula_65 rfl ?_
          refine JO_callVi (pc := 66) [] lk_X12_334 rfl (ci := 12) rfl shX12 (w_X12_hasBracket G (d + 3)  r9.2) rfl rfl (Nat.le_of_ble_eq_true rfl) dX12_formula_66 (fun r11 => ?_)
          refine JO_if_eq (pc := 69) (tgt := 104) dX12_formula_69 (by decide) ?_ ?_
          · exact JO_sub (l_sub_some (l_sub_none (l_sub_some (l_sub_some (l_sub_nil))))) (w_X12_formula_104 G d _ (w_X12_formula_164 G d _ (ih)) x2 v10 r11.2)
          · refine JO_aload_n (pc := 72) dX12_formula_72 rfl ?_
            refine JO_iconst (pc := 73) (a := 0) dX12_formula_73 (by decide) ?_
            refine JO_callVv (pc := 74) [.int 0] lk_X12_337 rfl (ci := 12) rfl shX12 (w_X12_close G (d + 2) 0 r11.2) rfl rfl (Nat.le_of_ble_eq_true rfl) dX12_formula_74 (fun σ12 => ?_)
            refine JO_aload_n (pc := 77) dX12_formula_77 rfl ?_
            refine JO_dup (pc := 78) dX12_formula_78 rfl ?_
            refine JO_getI (pc := 79) fl_X12_293 rfl fkX12_opens dX12_formula_79 ?_
            refine JO_iconst (pc := 82) (a := 1) dX12_formula_82 (by decide) ?_
            refine JO_isub (pc := 83) dX12_formula_83 ?_
            refine JO_putI (pc := 84) fl_X12_293 rfl fkX12_opens dX12_formula_84 (fun σ13 => ?_)
            refine JO_aload_n (pc := 87) dX12_formula_87 rfl ?_
            refine JO_dup (pc := 88) dX12_formula_88 rfl ?_
            refine JO_getI (pc := 89) fl_X12_303 rfl fkX12_deep dX12_formula_89 ?_
            refine JO_iconst (pc := 92) (a := 1) dX12_formula_92 (by decide) ?_
            refine JO_isub (pc := 93) dX12_formula_93 ?_
            refine JO_putI (pc := 94) fl_X12_303 rfl fkX12_deep dX12_formula_94 (fun σ14 => ?_)
            refine JO_aload_n (pc := 97) dX12_formula_97 rfl ?_
            refine JO_callVv (pc := 98) [] lk_X12_272 rfl (ci := 12) rfl shX12 (w_X12_token G (d + 2)  σ14) rfl rfl (Nat.le_of_ble_eq_true rfl) dX12_formula_98 (fun σ15 => ?_)
            refine JO_goto (pc := 101) (tgt := 164) dX12_formula_101 (by decide) ?_
            exact JO_sub (l_sub_some (l_sub_none (l_sub_some (l_sub_none (l_sub_nil))))) (w_X12_formula_164 G d _ (ih) x2 σ15)
set_option maxHeartbeats 4000000 in
set_option maxRecDepth 100000 in
theorem w_X12_formula (G : JG) (d : Nat) (x1 : Int32) (σ : Mem) : JS G mX12_formula (d + 4) [.ref (G.1 + off 1000), .int x1] σ rV (X12_formula x1 σ) := by
  refine JS_of 2 (by decide +kernel) (Nat.le_of_ble_eq_true rfl) (L := [some (.ref (G.1 + off 1000)), some (.int x1), none, none]) rfl ?_
  unfold X12_formula
  refine JO_aload_n (pc := 0) dX12_formula_0 rfl ?_
  refine JO_callVv (pc := 1) [] lk_X12_272 rfl (ci := 12) rfl shX12 (w_X12_token G (d + 2)  σ) rfl rfl (Nat.le_of_ble_eq_true rfl) dX12_formula_1 (fun σ1 => ?_)
  refine JO_aload_n (pc := 4) dX12_formula_4 rfl ?_
  refine JO_iload_n (pc := 5) dX12_formula_5 rfl ?_
  refine JO_putI (pc := 6) fl_X12_290 rfl fkX12_form dX12_formula_6 (fun σ2 => ?_)
  refine JO_aload_n (pc := 9) dX12_formula_9 rfl ?_
  refine JO_getR (pc := 10) fl_X12_27 rfl fkX12_nMany dX12_formula_10 ?_
  refine JO_aload_n (pc := 13) dX12_formula_13 rfl ?_
  refine JO_getI (pc := 14) fl_X12_290 rfl fkX12_form dX12_formula_14 ?_
  refine JO_iconst (pc := 17) (a := 0) dX12_formula_17 (by decide) ?_
  refine JO_iast (pc := 18) akX12_nMany dX12_formula_18 (fun σ3 => ?_)
  refine JO_aload_n (pc := 19) dX12_formula_19 rfl ?_
  refine JO_iconst (pc := 20) (a := 0) dX12_formula_20 (by decide) ?_
  refine JO_putI (pc := 21) fl_X12_293 rfl fkX12_opens dX12_formula_21 (fun σ4 => ?_)
  refine JO_aload_n (pc := 24) dX12_formula_24 rfl ?_
  refine JO_iconst (pc := 25) (a := 0) dX12_formula_25 (by decide) ?_
  refine JO_putI (pc := 26) fl_X12_303 rfl fkX12_deep dX12_formula_26 (fun σ5 => ?_)
  refine JO_aload_n (pc := 29) dX12_formula_29 rfl ?_
  refine JO_iconst (pc := 30) (a := 0) dX12_formula_30 (by decide) ?_
  refine JO_putI (pc := 31) fl_X12_309 rfl fkX12_ownUnits dX12_formula_31 (fun σ6 => ?_)
  refine JO_aload_n (pc := 34) dX12_formula_34 rfl ?_
  refine JO_callVv (pc := 35) [] lk_X12_328 rfl (ci := 12) rfl shX12 (w_X12_unit G d  σ6) rfl rfl (Nat.le_of_ble_eq_true rfl) dX12_formula_35 (fun σ7 => ?_)
  refine JO_iconst (pc := 38) (a := 1) dX12_formula_38 (by decide) ?_
  refine JO_nm (fun v8 => ?_)
  refine JO_istore_n (pc := 39) (L' := [some (.ref (G.1 + off 1000)), some (.int x1), some (.int v8), none]) dX12_formula_39 rfl rfl rfl ?_
  exact JO_sub (l_sub_some (l_sub_none (l_sub_some (l_sub_none (l_sub_nil))))) (w_X12_formula_40 G d fu v8 σ7)
set_option maxHeartbeats 4000000 in
set_option maxRecDepth 100000 in
theorem w_X12_truth (G : JG) (d : Nat) (x0 : Int32) (σ : Mem) : JS G mX12_truth d [.int x0] σ rI (X12_truth x0 σ) := by
  refine JS_of 0 (by decide +kernel) (Nat.le_of_ble_eq_true rfl) (L := [some (.int x0)]) rfl ?_
  unfold X12_truth
  refine JO_iload_n (pc := 0) dX12_truth_0 rfl ?_
  refine JO_if_eq (pc := 1) (tgt := 8) dX12_truth_1 (by decide) ?_ ?_
  · refine JO_iconst (pc := 8) (a := 0) dX12_truth_8 (by decide) ?_
    exact JO_reti (pc := 9) rfl dX12_truth_9
  · refine JO_iconst (pc := 4) (a := 1) dX12_truth_4 (by decide) ?_
    refine JO_goto (pc := 5) (tgt := 9) dX12_truth_5 (by decide) ?_
    exact JO_reti (pc := 9) rfl dX12_truth_9
set_option maxHeartbeats 4000000 in
set_option maxRecDepth 100000 in
theorem w_X12_done_166 (G : JG) (d : Nat) : ∀ (s0 : Int32) (σ : Mem), JO G mX12_done (d + 1) 166 [none, none, none] [.int s0] σ rI (X12_done_166 s0 σ) := by
  intro s0 σ
  unfold X12_done_166
  refine JO_callSi (pc := 166) [.int s0] lk_X12_343 rfl (w_X12_truth G d s0 σ) rfl rfl (Nat.le_of_ble_eq_true rfl) dX12_done_166 (fun r2 => ?_)
  exact JO_reti (pc := 169) rfl dX12_done_169
set_option maxHeartbeats 4000000 in
set_option maxRecDepth 100000 in
theorem w_X12_done_194 (G : JG) (d : Nat) : ∀ (s0 : Int32) (σ : Mem), JO G mX12_done (d + 1) 194 [none, none, none] [.int s0] σ rI (X12_done_194 s0 σ) := by
  intro s0 σ
  unfold X12_done_194
  refine JO_callSi (pc := 194) [.int s0] lk_X12_343 rfl (w_X12_truth G d s0 σ) rfl rfl (Nat.le_of_ble_eq_true rfl) dX12_done_194 (fun r3 => ?_)
  exact JO_reti (pc := 197) rfl dX12_done_197
set_option maxHeartbeats 4000000 in
set_option maxRecDepth 100000 in
theorem w_X12_done_180 (G : JG) (d : Nat) : ∀ (s0 : Int32) (σ : Mem), JO G mX12_done (d + 1) 180 [none, none, none] [.int s0] σ rI (X12_done_180 s0 σ) := by
  intro s0 σ
  unfold X12_done_180
  refine JO_callSi (pc := 180) [.int s0] lk_X12_343 rfl (w_X12_truth G d s0 σ) rfl rfl (Nat.le_of_ble_eq_true rfl) dX12_done_180 (fun r4 => ?_)
  exact JO_reti (pc := 183) rfl dX12_done_183
set_option maxHeartbeats 4000000 in
set_option maxRecDepth 100000 in
theorem w_X12_done_210 (G : JG) (d : Nat) (k211 : Int32 → Mem → Option (Int32 × Mem)) (hk211 : ∀ (s0 : Int32) (σ : Mem), JO G mX12_done (d + 1) 211 [none, none, none] [.int s0] σ rI (k211 s0 σ)) : ∀ (σ : Mem), JO G mX12_done (d + 1) 210 [none, none, none] [] σ rI (X12_done_210 k211 σ) := by
  intro σ
  unfold X12_done_210
  refine JO_iconst (pc := 210) (a := 0) dX12_done_210 (by decide) ?_
  exact JO_sub (l_sub_none (l_sub_none (l_sub_none (l_sub_nil)))) (hk211 0 σ)
set_option maxHeartbeats 4000000 in
set_option maxRecDepth 100000 in
theorem w_X12_done_211 (G : JG) (d : Nat) : ∀ (s0 : Int32) (σ : Mem), JO G mX12_done (d + 1) 211 [none, none, none] [.int s0] σ rI (X12_done_211 s0 σ) := by
  intro s0 σ
  unfold X12_done_211
  refine JO_callSi (pc := 211) [.int s0] lk_X12_343 rfl (w_X12_truth G d s0 σ) rfl rfl (Nat.le_of_ble_eq_true rfl) dX12_done_211 (fun r1 => ?_)
  exact JO_reti (pc := 214) rfl dX12_done_214
set_option maxHeartbeats 4000000 in
set_option maxRecDepth 100000 in
theorem w_X12_done_223 (G : JG) (d : Nat) (k228 : Int32 → Mem → Option (Int32 × Mem)) (hk228 : ∀ (s0 : Int32) (σ : Mem), JO G mX12_done (d + 1) 228 [none, none, none] [.int s0] σ rI (k228 s0 σ)) : ∀ (σ : Mem), JO G mX12_done (d + 1) 223 [none, none, none] [] σ rI (X12_done_223 k228 σ) := by
  intro σ
  unfold X12_done_223
  refine JO_iconst (pc := 223) (a := 1) dX12_done_223 (by decide) ?_
  refine JO_goto (pc := 224) (tgt := 228) dX12_done_224 (by decide) ?_
  exact JO_sub (l_sub_none (l_sub_none (l_sub_none (l_sub_nil)))) (hk228 1 σ)
set_option maxHeartbeats 4000000 in
set_option maxRecDepth 100000 in
theorem w_X12_done_228 (G : JG) (d : Nat) : ∀ (s0 : Int32) (σ : Mem), JO G mX12_done (d + 1) 228 [none, none, none] [.int s0] σ rI (X12_done_228 s0 σ) := by
  intro s0 σ
  unfold X12_done_228
  refine JO_callSi (pc := 228) [.int s0] lk_X12_343 rfl (w_X12_truth G d s0 σ) rfl rfl (Nat.le_of_ble_eq_true rfl) dX12_done_228 (fun r5 => ?_)
  exact JO_reti (pc := 231) rfl dX12_done_231
set_option maxHeartbeats 4000000 in
set_option maxRecDepth 100000 in
theorem w_X12_done (G : JG) (d : Nat) (x0 : Int32) (x1 : Int32) (x2 : Int32) (σ : Mem) : JS G mX12_done (d + 1) [.int x0, .int x1, .int x2] σ rI (X12_done x0 x1 x2 σ) := by
  refine JS_of 0 (by decide +kernel) (Nat.le_of_ble_eq_true rfl) (L := [some (.int x0), some (.int x1), some (.int x2)]) rfl ?_
  unfold X12_done
  refine JO_iload_n (pc := 0) dX12_done_0 rfl ?_
  refine JO_ite (fun hc37 => ?_) (fun hc37 => ?_)
  · rw [hc37]
    refine JO_tin (pc := 1) (tgt := 144) dX12_done_1 (by decide) (by decide) rfl (by decide) ?_
    refine JO_iload_n (pc := 144) dX12_done_144 rfl ?_
    refine JO_if_ne (pc := 145) (tgt := 152) dX12_done_145 (by decide) ?_ ?_
    · refine JO_iload_n (pc := 152) dX12_done_152 rfl ?_
      refine JO_iload_n (pc := 153) dX12_done_153 rfl ?_
      refine JO_irem (pc := 154) dX12_done_154 ?_
      exact JO_reti (pc := 155) rfl dX12_done_155
    · refine JO_iconst (pc := 148) (a := 0) dX12_done_148 (by decide) ?_
      refine JO_goto (pc := 149) (tgt := 155) dX12_done_149 (by decide) ?_
      exact JO_reti (pc := 155) rfl dX12_done_155
  refine JO_ite (fun hc38 => ?_) (fun hc38 => ?_)
  · rw [hc38]
    refine JO_tin (pc := 1) (tgt := 198) dX12_done_1 (by decide) (by decide) rfl (by decide) ?_
    refine JO_iload_n (pc := 198) dX12_done_198 rfl ?_
    refine JO_if_eq (pc := 199) (tgt := 210) dX12_done_199 (by decide) ?_ ?_
    · exact JO_sub (l_sub_none (l_sub_none (l_sub_none (l_sub_nil)))) (w_X12_done_210 G d _ (w_X12_done_211 G d)  σ)
    · refine JO_iload_n (pc := 202) dX12_done_202 rfl ?_
      refine JO_if_eq (pc := 203) (tgt := 210) dX12_done_203 (by decide) ?_ ?_
      · exact JO_sub (l_sub_none (l_sub_none (l_sub_none (l_sub_nil)))) (w_X12_done_210 G d _ (w_X12_done_211 G d)  σ)
      · refine JO_iconst (pc := 206) (a := 1) dX12_done_206 (by decide) ?_
        refine JO_goto (pc := 207) (tgt := 211) dX12_done_207 (by decide) ?_
        exact JO_sub (l_sub_none (l_sub_none (l_sub_none (l_sub_nil)))) (w_X12_done_211 G d 1 σ)
  refine JO_ite (fun hc42 => ?_) (fun hc42 => ?_)
  · rw [hc42]
    refine JO_tin (pc := 1) (tgt := 128) dX12_done_1 (by decide) (by decide) rfl (by decide) ?_
    refine JO_iload_n (pc := 128) dX12_done_128 rfl ?_
    refine JO_iload_n (pc := 129) dX12_done_129 rfl ?_
    refine JO_imul (pc := 130) dX12_done_130 ?_
    exact JO_reti (pc := 131) rfl dX12_done_131
  refine JO_ite (fun hc43 => ?_) (fun hc43 => ?_)
  · rw [hc43]
    refine JO_tin (pc := 1) (tgt := 120) dX12_done_1 (by decide) (by decide) rfl (by decide) ?_
    refine JO_iload_n (pc := 120) dX12_done_120 rfl ?_
    refine JO_iload_n (pc := 121) dX12_done_121 rfl ?_
    refine JO_iadd (pc := 122) dX12_done_122 ?_
    exact JO_reti (pc := 123) rfl dX12_done_123
  refine JO_ite (fun hc45 => ?_) (fun hc45 => ?_)
  · rw [hc45]
    refine JO_tin (pc := 1) (tgt := 124) dX12_done_1 (by decide) (by decide) rfl (by decide) ?_
    refine JO_iload_n (pc := 124) dX12_done_124 rfl ?_
    refine JO_iload_n (pc := 125) dX12_done_125 rfl ?_
    refine JO_isub (pc := 126) dX12_done_126 ?_
    exact JO_reti (pc := 127) rfl dX12_done_127
  refine JO_ite (fun hc47 => ?_) (fun hc47 => ?_)
  · rw [hc47]
    refine JO_tin (pc := 1) (tgt := 132) dX12_done_1 (by decide) (by decide) rfl (by decide) ?_
    refine JO_iload_n (pc := 132) dX12_done_132 rfl ?_
    refine JO_if_ne (pc := 133) (tgt := 140) dX12_done_133 (by decide) ?_ ?_
    · refine JO_iload_n (pc := 140) dX12_done_140 rfl ?_
      refine JO_iload_n (pc := 141) dX12_done_141 rfl ?_
      refine JO_idiv (pc := 142) dX12_done_142 ?_
      exact JO_reti (pc := 143) rfl dX12_done_143
    · refine JO_iconst (pc := 136) (a := 0) dX12_done_136 (by decide) ?_
      refine JO_goto (pc := 137) (tgt := 143) dX12_done_137 (by decide) ?_
      exact JO_reti (pc := 143) rfl dX12_done_143
  refine JO_ite (fun hc60 => ?_) (fun hc60 => ?_)
  · rw [hc60]
    refine JO_tin (pc := 1) (tgt := 156) dX12_done_1 (by decide) (by decide) rfl (by decide) ?_
    refine JO_iload_n (pc := 156) dX12_done_156 rfl ?_
    refine JO_iload_n (pc := 157) dX12_done_157 rfl ?_
    refine JO_icmp_ge (pc := 158) (tgt := 165) dX12_done_158 (by decide) ?_ ?_
    · refine JO_iconst (pc := 165) (a := 0) dX12_done_165 (by decide) ?_
      exact JO_sub (l_sub_none (l_sub_none (l_sub_none (l_sub_nil)))) (w_X12_done_166 G d 0 σ)
    · refine JO_iconst (pc := 161) (a := 1) dX12_done_161 (by decide) ?_
      refine JO_goto (pc := 162) (tgt := 166) dX12_done_162 (by decide) ?_
      exact JO_sub (l_sub_none (l_sub_none (l_sub_none (l_sub_nil)))) (w_X12_done_166 G d 1 σ)
  refine JO_ite (fun hc61 => ?_) (fun hc61 => ?_)
  · rw [hc61]
    refine JO_tin (pc := 1) (tgt := 184) dX12_done_1 (by decide) (by decide) rfl (by decide) ?_
    refine JO_iload_n (pc := 184) dX12_done_184 rfl ?_
    refine JO_iload_n (pc := 185) dX12_done_185 rfl ?_
    refine JO_icmp_ne (pc := 186) (tgt := 193) dX12_done_186 (by decide) ?_ ?_
    · refine JO_iconst (pc := 193) (a := 0) dX12_done_193 (by decide) ?_
      exact JO_sub (l_sub_none (l_sub_none (l_sub_none (l_sub_nil)))) (w_X12_done_194 G d 0 σ)
    · refine JO_iconst (pc := 189) (a := 1) dX12_done_189 (by decide) ?_
      refine JO_goto (pc := 190) (tgt := 194) dX12_done_190 (by decide) ?_
      exact JO_sub (l_sub_none (l_sub_none (l_sub_none (l_sub_nil)))) (w_X12_done_194 G d 1 σ)
  refine JO_ite (fun hc62 => ?_) (fun hc62 => ?_)
  · rw [hc62]
    refine JO_tin (pc := 1) (tgt := 170) dX12_done_1 (by decide) (by decide) rfl (by decide) ?_
    refine JO_iload_n (pc := 170) dX12_done_170 rfl ?_
    refine JO_iload_n (pc := 171) dX12_done_171 rfl ?_
    refine JO_icmp_le (pc := 172) (tgt := 179) dX12_done_172 (by decide) ?_ ?_
    · refine JO_iconst (pc := 179) (a := 0) dX12_done_179 (by decide) ?_
      exact JO_sub (l_sub_none (l_sub_none (l_sub_none (l_sub_nil)))) (w_X12_done_180 G d 0 σ)
    · refine JO_iconst (pc := 175) (a := 1) dX12_done_175 (by decide) ?_
      refine JO_goto (pc := 176) (tgt := 180) dX12_done_176 (by decide) ?_
      exact JO_sub (l_sub_none (l_sub_none (l_sub_none (l_sub_nil)))) (w_X12_done_180 G d 1 σ)
  by_cases hc39 : x0 = 39
  · rw [hc39]
    refine JO_tin (pc := 1) (tgt := 215) dX12_done_1 (by decide) (by decide) rfl (by decide) ?_
    refine JO_iload_n (pc := 215) dX12_done_215 rfl ?_
    refine JO_if_ne (pc := 216) (tgt := 223) dX12_done_216 (by decide) ?_ ?_
    · exact JO_sub (l_sub_none (l_sub_none (l_sub_none (l_sub_nil)))) (w_X12_done_223 G d _ (w_X12_done_228 G d)  σ)
    · refine JO_iload_n (pc := 219) dX12_done_219 rfl ?_
      refine JO_if_eq (pc := 220) (tgt := 227) dX12_done_220 (by decide) ?_ ?_
      · refine JO_iconst (pc := 227) (a := 0) dX12_done_227 (by decide) ?_
        exact JO_sub (l_sub_none (l_sub_none (l_sub_none (l_sub_nil)))) (w_X12_done_228 G d 0 σ)
      · exact JO_sub (l_sub_none (l_sub_none (l_sub_none (l_sub_nil)))) (w_X12_done_223 G d _ (w_X12_done_228 G d)  σ)
  by_cases hc40 : x0 = 40
  · rw [hc40]
    refine JO_tin (pc := 1) (tgt := 215) dX12_done_1 (by decide) (by decide) rfl (by decide) ?_
    refine JO_iload_n (pc := 215) dX12_done_215 rfl ?_
    refine JO_if_ne (pc := 216) (tgt := 223) dX12_done_216 (by decide) ?_ ?_
    · exact JO_sub (l_sub_none (l_sub_none (l_sub_none (l_sub_nil)))) (w_X12_done_223 G d _ (w_X12_done_228 G d)  σ)
    · refine JO_iload_n (pc := 219) dX12_done_219 rfl ?_
      refine JO_if_eq (pc := 220) (tgt := 227) dX12_done_220 (by decide) ?_ ?_
      · refine JO_iconst (pc := 227) (a := 0) dX12_done_227 (by decide) ?_
        exact JO_sub (l_sub_none (l_sub_none (l_sub_none (l_sub_nil)))) (w_X12_done_228 G d 0 σ)
      · exact JO_sub (l_sub_none (l_sub_none (l_sub_none (l_sub_nil)))) (w_X12_done_223 G d _ (w_X12_done_228 G d)  σ)
  by_cases hc41 : x0 = 41
  · rw [hc41]
    refine JO_tin (pc := 1) (tgt := 215) dX12_done_1 (by decide) (by decide) rfl (by decide) ?_
    refine JO_iload_n (pc := 215) dX12_done_215 rfl ?_
    refine JO_if_ne (pc := 216) (tgt := 223) dX12_done_216 (by decide) ?_ ?_
    · exact JO_sub (l_sub_none (l_sub_none (l_sub_none (l_sub_nil)))) (w_X12_done_223 G d _ (w_X12_done_228 G d)  σ)
    · refine JO_iload_n (pc := 219) dX12_done_219 rfl ?_
      refine JO_if_eq (pc := 220) (tgt := 227) dX12_done_220 (by decide) ?_ ?_
      · refine JO_iconst (pc := 227) (a := 0) dX12_done_227 (by decide) ?_
        exact JO_sub (l_sub_none (l_sub_none (l_sub_none (l_sub_nil)))) (w_X12_done_228 G d 0 σ)
      · exact JO_sub (l_sub_none (l_sub_none (l_sub_none (l_sub_nil)))) (w_X12_done_223 G d _ (w_X12_done_228 G d)  σ)
  by_cases hc44 : x0 = 44
  · rw [hc44]
    refine JO_tin (pc := 1) (tgt := 215) dX12_done_1 (by decide) (by decide) rfl (by decide) ?_
    refine JO_iload_n (pc := 215) dX12_done_215 rfl ?_
    refine JO_if_ne (pc := 216) (tgt := 223) dX12_done_216 (by decide) ?_ ?_
    · exact JO_sub (l_sub_none (l_sub_none (l_sub_none (l_sub_nil)))) (w_X12_done_223 G d _ (w_X12_done_228 G d)  σ)
    · refine JO_iload_n (pc := 219) dX12_done_219 rfl ?_
      refine JO_if_eq (pc := 220) (tgt := 227) dX12_done_220 (by decide) ?_ ?_
      · refine JO_iconst (pc := 227) (a := 0) dX12_done_227 (by decide) ?_
        exact JO_sub (l_sub_none (l_sub_none (l_sub_none (l_sub_nil)))) (w_X12_done_228 G d 0 σ)
      · exact JO_sub (l_sub_none (l_sub_none (l_sub_none (l_sub_nil)))) (w_X12_done_223 G d _ (w_X12_done_228 G d)  σ)
  by_cases hc46 : x0 = 46
  · rw [hc46]
    refine JO_tin (pc := 1) (tgt := 215) dX12_done_1 (by decide) (by decide) rfl (by decide) ?_
    refine JO_iload_n (pc := 215) dX12_done_215 rfl ?_
    refine JO_if_ne (pc := 216) (tgt := 223) dX12_done_216 (by decide) ?_ ?_
    · exact JO_sub (l_sub_none (l_sub_none (l_sub_none (l_sub_nil)))) (w_X12_done_223 G d _ (w_X12_done_228 G d)  σ)
    · refine JO_iload_n (pc := 219) dX12_done_219 rfl ?_
      refine JO_if_eq (pc := 220) (tgt := 227) dX12_done_220 (by decide) ?_ ?_
      · refine JO_iconst (pc := 227) (a := 0) dX12_done_227 (by decide) ?_
        exact JO_sub (l_sub_none (l_sub_none (l_sub_none (l_sub_nil)))) (w_X12_done_228 G d 0 σ)
      · exact JO_sub (l_sub_none (l_sub_none (l_sub_none (l_sub_nil)))) (w_X12_done_223 G d _ (w_X12_done_228 G d)  σ)
  by_cases hc48 : x0 = 48
  · rw [hc48]
    refine JO_tin (pc := 1) (tgt := 215) dX12_done_1 (by decide) (by decide) rfl (by decide) ?_
    refine JO_iload_n (pc := 215) dX12_done_215 rfl ?_
    refine JO_if_ne (pc := 216) (tgt := 223) dX12_done_216 (by decide) ?_ ?_
    · exact JO_sub (l_sub_none (l_sub_none (l_sub_none (l_sub_nil)))) (w_X12_done_223 G d _ (w_X12_done_228 G d)  σ)
    · refine JO_iload_n (pc := 219) dX12_done_219 rfl ?_
      refine JO_if_eq (pc := 220) (tgt := 227) dX12_done_220 (by decide) ?_ ?_
      · refine JO_iconst (pc := 227) (a := 0) dX12_done_227 (by decide) ?_
        exact JO_sub (l_sub_none (l_sub_none (l_sub_none (l_sub_nil)))) (w_X12_done_228 G d 0 σ)
      · exact JO_sub (l_sub_none (l_sub_none (l_sub_none (l_sub_nil)))) (w_X12_done_223 G d _ (w_X12_done_228 G d)  σ)
  by_cases hc49 : x0 = 49
  · rw [hc49]
    refine JO_tin (pc := 1) (tgt := 215) dX12_done_1 (by decide) (by decide) rfl (by decide) ?_
    refine JO_iload_n (pc := 215) dX12_done_215 rfl ?_
    refine JO_if_ne (pc := 216) (tgt := 223) dX12_done_216 (by decide) ?_ ?_
    · exact JO_sub (l_sub_none (l_sub_none (l_sub_none (l_sub_nil)))) (w_X12_done_223 G d _ (w_X12_done_228 G d)  σ)
    · refine JO_iload_n (pc := 219) dX12_done_219 rfl ?_
      refine JO_if_eq (pc := 220) (tgt := 227) dX12_done_220 (by decide) ?_ ?_
      · refine JO_iconst (pc := 227) (a := 0) dX12_done_227 (by decide) ?_
        exact JO_sub (l_sub_none (l_sub_none (l_sub_none (l_sub_nil)))) (w_X12_done_228 G d 0 σ)
      · exact JO_sub (l_sub_none (l_sub_none (l_sub_none (l_sub_nil)))) (w_X12_done_223 G d _ (w_X12_done_228 G d)  σ)
  by_cases hc50 : x0 = 50
  · rw [hc50]
    refine JO_tin (pc := 1) (tgt := 215) dX12_done_1 (by decide) (by decide) rfl (by decide) ?_
    refine JO_iload_n (pc := 215) dX12_done_215 rfl ?_
    refine JO_if_ne (pc := 216) (tgt := 223) dX12_done_216 (by decide) ?_ ?_
    · exact JO_sub (l_sub_none (l_sub_none (l_sub_none (l_sub_nil)))) (w_X12_done_223 G d _ (w_X12_done_228 G d)  σ)
    · refine JO_iload_n (pc := 219) dX12_done_219 rfl ?_
      refine JO_if_eq (pc := 220) (tgt := 227) dX12_done_220 (by decide) ?_ ?_
      · refine JO_iconst (pc := 227) (a := 0) dX12_done_227 (by decide) ?_
        exact JO_sub (l_sub_none (l_sub_none (l_sub_none (l_sub_nil)))) (w_X12_done_228 G d 0 σ)
      · exact JO_sub (l_sub_none (l_sub_none (l_sub_none (l_sub_nil)))) (w_X12_done_223 G d _ (w_X12_done_228 G d)  σ)
  by_cases hc51 : x0 = 51
  · rw [hc51]
    refine JO_tin (pc := 1) (tgt := 215) dX12_done_1 (by decide) (by decide) rfl (by decide) ?_
    refine JO_iload_n (pc := 215) dX12_done_215 rfl ?_
    refine JO_if_ne (pc := 216) (tgt := 223) dX12_done_216 (by decide) ?_ ?_
    · exact JO_sub (l_sub_none (l_sub_none (l_sub_none (l_sub_nil)))) (w_X12_done_223 G d _ (w_X12_done_228 G d)  σ)
    · refine JO_iload_n (pc := 219) dX12_done_219 rfl ?_
      refine JO_if_eq (pc := 220) (tgt := 227) dX12_done_220 (by decide) ?_ ?_
      · refine JO_iconst (pc := 227) (a := 0) dX12_done_227 (by decide) ?_
        exact JO_sub (l_sub_none (l_sub_none (l_sub_none (l_sub_nil)))) (w_X12_done_228 G d 0 σ)
      · exact JO_sub (l_sub_none (l_sub_none (l_sub_none (l_sub_nil)))) (w_X12_done_223 G d _ (w_X12_done_228 G d)  σ)
  by_cases hc52 : x0 = 52
  · rw [hc52]
    refine JO_tin (pc := 1) (tgt := 215) dX12_done_1 (by decide) (by decide) rfl (by decide) ?_
    refine JO_iload_n (pc := 215) dX12_done_215 rfl ?_
    refine JO_if_ne (pc := 216) (tgt := 223) dX12_done_216 (by decide) ?_ ?_
    · exact JO_sub (l_sub_none (l_sub_none (l_sub_none (l_sub_nil)))) (w_X12_done_223 G d _ (w_X12_done_228 G d)  σ)
    · refine JO_iload_n (pc := 219) dX12_done_219 rfl ?_
      refine JO_if_eq (pc := 220) (tgt := 227) dX12_done_220 (by decide) ?_ ?_
      · refine JO_iconst (pc := 227) (a := 0) dX12_done_227 (by decide) ?_
        exact JO_sub (l_sub_none (l_sub_none (l_sub_none (l_sub_nil)))) (w_X12_done_228 G d 0 σ)
      · exact JO_sub (l_sub_none (l_sub_none (l_sub_none (l_sub_nil)))) (w_X12_done_223 G d _ (w_X12_done_228 G d)  σ)
  by_cases hc53 : x0 = 53
  · rw [hc53]
    refine JO_tin (pc := 1) (tgt := 215) dX12_done_1 (by decide) (by decide) rfl (by decide) ?_
    refine JO_iload_n (pc := 215) dX12_done_215 rfl ?_
    refine JO_if_ne (pc := 216) (tgt := 223) dX12_done_216 (by decide) ?_ ?_
    · exact JO_sub (l_sub_none (l_sub_none (l_sub_none (l_sub_nil)))) (w_X12_done_223 G d _ (w_X12_done_228 G d)  σ)
    · refine JO_iload_n (pc := 219) dX12_done_219 rfl ?_
      refine JO_if_eq (pc := 220) (tgt := 227) dX12_done_220 (by decide) ?_ ?_
      · refine JO_iconst (pc := 227) (a := 0) dX12_done_227 (by decide) ?_
        exact JO_sub (l_sub_none (l_sub_none (l_sub_none (l_sub_nil)))) (w_X12_done_228 G d 0 σ)
      · exact JO_sub (l_sub_none (l_sub_none (l_sub_none (l_sub_nil)))) (w_X12_done_223 G d _ (w_X12_done_228 G d)  σ)
  by_cases hc54 : x0 = 54
  · rw [hc54]
    refine JO_tin (pc := 1) (tgt := 215) dX12_done_1 (by decide) (by decide) rfl (by decide) ?_
    refine JO_iload_n (pc := 215) dX12_done_215 rfl ?_
    refine JO_if_ne (pc := 216) (tgt := 223) dX12_done_216 (by decide) ?_ ?_
    · exact JO_sub (l_sub_none (l_sub_none (l_sub_none (l_sub_nil)))) (w_X12_done_223 G d _ (w_X12_done_228 G d)  σ)
    · refine JO_iload_n (pc := 219) dX12_done_219 rfl ?_
      refine JO_if_eq (pc := 220) (tgt := 227) dX12_done_220 (by decide) ?_ ?_
      · refine JO_iconst (pc := 227) (a := 0) dX12_done_227 (by decide) ?_
        exact JO_sub (l_sub_none (l_sub_none (l_sub_none (l_sub_nil)))) (w_X12_done_228 G d 0 σ)
      · exact JO_sub (l_sub_none (l_sub_none (l_sub_none (l_sub_nil)))) (w_X12_done_223 G d _ (w_X12_done_228 G d)  σ)
  by_cases hc55 : x0 = 55
  · rw [hc55]
    refine JO_tin (pc := 1) (tgt := 215) dX12_done_1 (by decide) (by decide) rfl (by decide) ?_
    refine JO_iload_n (pc := 215) dX12_done_215 rfl ?_
    refine JO_if_ne (pc := 216) (tgt := 223) dX12_done_216 (by decide) ?_ ?_
    · exact JO_sub (l_sub_none (l_sub_none (l_sub_none (l_sub_nil)))) (w_X12_done_223 G d _ (w_X12_done_228 G d)  σ)
    · refine JO_iload_n (pc := 219) dX12_done_219 rfl ?_
      refine JO_if_eq (pc := 220) (tgt := 227) dX12_done_220 (by decide) ?_ ?_
      · refine JO_iconst (pc := 227) (a := 0) dX12_done_227 (by decide) ?_
        exact JO_sub (l_sub_none (l_sub_none (l_sub_none (l_sub_nil)))) (w_X12_done_228 G d 0 σ)
      · exact JO_sub (l_sub_none (l_sub_none (l_sub_none (l_sub_nil)))) (w_X12_done_223 G d _ (w_X12_done_228 G d)  σ)
  by_cases hc56 : x0 = 56
  · rw [hc56]
    refine JO_tin (pc := 1) (tgt := 215) dX12_done_1 (by decide) (by decide) rfl (by decide) ?_
    refine JO_iload_n (pc := 215) dX12_done_215 rfl ?_
    refine JO_if_ne (pc := 216) (tgt := 223) dX12_done_216 (by decide) ?_ ?_
    · exact JO_sub (l_sub_none (l_sub_none (l_sub_none (l_sub_nil)))) (w_X12_done_223 G d _ (w_X12_done_228 G d)  σ)
    · refine JO_iload_n (pc := 219) dX12_done_219 rfl ?_
      refine JO_if_eq (pc := 220) (tgt := 227) dX12_done_220 (by decide) ?_ ?_
      · refine JO_iconst (pc := 227) (a := 0) dX12_done_227 (by decide) ?_
        exact JO_sub (l_sub_none (l_sub_none (l_sub_none (l_sub_nil)))) (w_X12_done_228 G d 0 σ)
      · exact JO_sub (l_sub_none (l_sub_none (l_sub_none (l_sub_nil)))) (w_X12_done_223 G d _ (w_X12_done_228 G d)  σ)
  by_cases hc57 : x0 = 57
  · rw [hc57]
    refine JO_tin (pc := 1) (tgt := 215) dX12_done_1 (by decide) (by decide) rfl (by decide) ?_
    refine JO_iload_n (pc := 215) dX12_done_215 rfl ?_
    refine JO_if_ne (pc := 216) (tgt := 223) dX12_done_216 (by decide) ?_ ?_
    · exact JO_sub (l_sub_none (l_sub_none (l_sub_none (l_sub_nil)))) (w_X12_done_223 G d _ (w_X12_done_228 G d)  σ)
    · refine JO_iload_n (pc := 219) dX12_done_219 rfl ?_
      refine JO_if_eq (pc := 220) (tgt := 227) dX12_done_220 (by decide) ?_ ?_
      · refine JO_iconst (pc := 227) (a := 0) dX12_done_227 (by decide) ?_
        exact JO_sub (l_sub_none (l_sub_none (l_sub_none (l_sub_nil)))) (w_X12_done_228 G d 0 σ)
      · exact JO_sub (l_sub_none (l_sub_none (l_sub_none (l_sub_nil)))) (w_X12_done_223 G d _ (w_X12_done_228 G d)  σ)
  by_cases hc58 : x0 = 58
  · rw [hc58]
    refine JO_tin (pc := 1) (tgt := 215) dX12_done_1 (by decide) (by decide) rfl (by decide) ?_
    refine JO_iload_n (pc := 215) dX12_done_215 rfl ?_
    refine JO_if_ne (pc := 216) (tgt := 223) dX12_done_216 (by decide) ?_ ?_
    · exact JO_sub (l_sub_none (l_sub_none (l_sub_none (l_sub_nil)))) (w_X12_done_223 G d _ (w_X12_done_228 G d)  σ)
    · refine JO_iload_n (pc := 219) dX12_done_219 rfl ?_
      refine JO_if_eq (pc := 220) (tgt := 227) dX12_done_220 (by decide) ?_ ?_
      · refine JO_iconst (pc := 227) (a := 0) dX12_done_227 (by decide) ?_
        exact JO_sub (l_sub_none (l_sub_none (l_sub_none (l_sub_nil)))) (w_X12_done_228 G d 0 σ)
      · exact JO_sub (l_sub_none (l_sub_none (l_sub_none (l_sub_nil)))) (w_X12_done_223 G d _ (w_X12_done_228 G d)  σ)
  by_cases hc59 : x0 = 59
  · rw [hc59]
    refine JO_tin (pc := 1) (tgt := 215) dX12_done_1 (by decide) (by decide) rfl (by decide) ?_
    refine JO_iload_n (pc := 215) dX12_done_215 rfl ?_
    refine JO_if_ne (pc := 216) (tgt := 223) dX12_done_216 (by decide) ?_ ?_
    · exact JO_sub (l_sub_none (l_sub_none (l_sub_none (l_sub_nil)))) (w_X12_done_223 G d _ (w_X12_done_228 G d)  σ)
    · refine JO_iload_n (pc := 219) dX12_done_219 rfl ?_
      refine JO_if_eq (pc := 220) (tgt := 227) dX12_done_220 (by decide) ?_ ?_
      · refine JO_iconst (pc := 227) (a := 0) dX12_done_227 (by decide) ?_
        exact JO_sub (l_sub_none (l_sub_none (l_sub_none (l_sub_nil)))) (w_X12_done_228 G d 0 σ)
      · exact JO_sub (l_sub_none (l_sub_none (l_sub_none (l_sub_nil)))) (w_X12_done_223 G d _ (w_X12_done_228 G d)  σ)
  have z37 : x0.toInt ≠ 37 := ne_toInt hc37
  have z38 : x0.toInt ≠ 38 := ne_toInt hc38
  have z39 : x0.toInt ≠ 39 := ne_toInt hc39
  have z40 : x0.toInt ≠ 40 := ne_toInt hc40
  have z41 : x0.toInt ≠ 41 := ne_toInt hc41
  have z42 : x0.toInt ≠ 42 := ne_toInt hc42
  have z43 : x0.toInt ≠ 43 := ne_toInt hc43
  have z44 : x0.toInt ≠ 44 := ne_toInt hc44
  have z45 : x0.toInt ≠ 45 := ne_toInt hc45
  have z46 : x0.toInt ≠ 46 := ne_toInt hc46
  have z47 : x0.toInt ≠ 47 := ne_toInt hc47
  have z48 : x0.toInt ≠ 48 := ne_toInt hc48
  have z49 : x0.toInt ≠ 49 := ne_toInt hc49
  have z50 : x0.toInt ≠ 50 := ne_toInt hc50
  have z51 : x0.toInt ≠ 51 := ne_toInt hc51
  have z52 : x0.toInt ≠ 52 := ne_toInt hc52
  have z53 : x0.toInt ≠ 53 := ne_toInt hc53
  have z54 : x0.toInt ≠ 54 := ne_toInt hc54
  have z55 : x0.toInt ≠ 55 := ne_toInt hc55
  have z56 : x0.toInt ≠ 56 := ne_toInt hc56
  have z57 : x0.toInt ≠ 57 := ne_toInt hc57
  have z58 : x0.toInt ≠ 58 := ne_toInt hc58
  have z59 : x0.toInt ≠ 59 := ne_toInt hc59
  have z60 : x0.toInt ≠ 60 := ne_toInt hc60
  have z61 : x0.toInt ≠ 61 := ne_toInt hc61
  have z62 : x0.toInt ≠ 62 := ne_toInt hc62
  refine JO_tout (pc := 1) (tgt := 215) dX12_done_1 (by omega) (by decide) ?_
  refine JO_iload_n (pc := 215) dX12_done_215 rfl ?_
  refine JO_if_ne (pc := 216) (tgt := 223) dX12_done_216 (by decide) ?_ ?_
  · exact JO_sub (l_sub_none (l_sub_none (l_sub_none (l_sub_nil)))) (w_X12_done_223 G d _ (w_X12_done_228 G d)  σ)
  · refine JO_iload_n (pc := 219) dX12_done_219 rfl ?_
    refine JO_if_eq (pc := 220) (tgt := 227) dX12_done_220 (by decide) ?_ ?_
    · refine JO_iconst (pc := 227) (a := 0) dX12_done_227 (by decide) ?_
      exact JO_sub (l_sub_none (l_sub_none (l_sub_none (l_sub_nil)))) (w_X12_done_228 G d 0 σ)
    · exact JO_sub (l_sub_none (l_sub_none (l_sub_none (l_sub_nil)))) (w_X12_done_223 G d _ (w_X12_done_228 G d)  σ)
