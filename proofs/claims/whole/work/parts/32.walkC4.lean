set_option maxHeartbeats 4000000 in
set_option maxRecDepth 100000 in
theorem w_X11_putOnTape_3 (G : JG) (d : Nat) : ∀ (n : Nat) (x1 : Int32) (x2 : Int32) (σ : Mem), JO G mX11_putOnTape d 3 [some (.ref (G.1 + off 0)), some (.int x1), some (.int x2)] [] σ rV (X11_putOnTape_3 n x1 x2 σ) := by
  intro n
  induction n with
  | zero =>
    intro x1 x2 σ
    exact JO_none
  | succ n ih =>
    intro x1 x2 σ
    rw [X11_putOnTape_3]
    refine JO_iload_n (pc := 3) dX11_putOnTape_3 rfl ?_
    refine JO_if_lt (pc := 4) (tgt := 46) dX11_putOnTape_4 (by decide) ?_ ?_
    · exact JO_retv (pc := 46) rfl dX11_putOnTape_46
    · refine JO_aload_n (pc := 7) dX11_putOnTape_7 rfl ?_
      refine JO_getI (pc := 8) fl_X11_87 rfl fkX11_tapeLength dX11_putOnTape_8 ?_
      refine JO_sipush (pc := 11) (a := 1600) dX11_putOnTape_11 (by decide) ?_
      refine JO_icmp_ge (pc := 14) (tgt := 46) dX11_putOnTape_14 (by decide) ?_ ?_
      · exact JO_retv (pc := 46) rfl dX11_putOnTape_46
      · refine JO_aload_n (pc := 17) dX11_putOnTape_17 rfl ?_
        refine JO_getR (pc := 18) fl_X11_9 rfl fkX11_tape dX11_putOnTape_18 ?_
        refine JO_aload_n (pc := 21) dX11_putOnTape_21 rfl ?_
        refine JO_getI (pc := 22) fl_X11_87 rfl fkX11_tapeLength dX11_putOnTape_22 ?_
        refine JO_iload_n (pc := 25) dX11_putOnTape_25 rfl ?_
        refine JO_iload_n (pc := 26) dX11_putOnTape_26 rfl ?_
        refine JO_iushr (pc := 27) dX11_putOnTape_27 ?_
        refine JO_i2b (pc := 28) dX11_putOnTape_28 ?_
        refine JO_bast (pc := 29) akX11_tape dX11_putOnTape_29 (fun σ2 => ?_)
        refine JO_aload_n (pc := 30) dX11_putOnTape_30 rfl ?_
        refine JO_dup (pc := 31) dX11_putOnTape_31 rfl ?_
        refine JO_getI (pc := 32) fl_X11_87 rfl fkX11_tapeLength dX11_putOnTape_32 ?_
        refine JO_iconst (pc := 35) (a := 1) dX11_putOnTape_35 (by decide) ?_
        refine JO_iadd (pc := 36) dX11_putOnTape_36 ?_
        refine JO_putI (pc := 37) fl_X11_87 rfl fkX11_tapeLength dX11_putOnTape_37 (fun σ3 => ?_)
        refine JO_inc (pc := 40) (b := (-8)) (L' := fun v4 => [some (.ref (G.1 + off 0)), some (.int x1), some (.int v4)]) dX11_putOnTape_40 rfl rfl (by decide) rfl (fun _ => rfl) (fun v4 => ?_)
        refine JO_goto (pc := 43) (tgt := 3) dX11_putOnTape_43 (by decide) ?_
        exact JO_sub (l_sub_some (l_sub_some (l_sub_some (l_sub_nil)))) (ih x1 v4 σ3)
set_option maxHeartbeats 4000000 in
set_option maxRecDepth 100000 in
theorem w_X11_putOnTape (G : JG) (d : Nat) (x1 : Int32) (σ : Mem) : JS G mX11_putOnTape d [.ref (G.1 + off 0), .int x1] σ rV (X11_putOnTape x1 σ) := by
  refine JS_of 1 (by decide +kernel) (Nat.le_of_ble_eq_true rfl) (L := [some (.ref (G.1 + off 0)), some (.int x1), none]) rfl ?_
  unfold X11_putOnTape
  refine JO_bipush (pc := 0) (a := 24) dX11_putOnTape_0 (by decide) ?_
  refine JO_nm (fun v1 => ?_)
  refine JO_istore_n (pc := 2) (L' := [some (.ref (G.1 + off 0)), some (.int x1), some (.int v1)]) dX11_putOnTape_2 rfl rfl rfl ?_
  exact JO_sub (l_sub_some (l_sub_some (l_sub_some (l_sub_nil)))) (w_X11_putOnTape_3 G d fu x1 v1 σ)
set_option maxHeartbeats 4000000 in
set_option maxRecDepth 100000 in
theorem w_X11_feed (G : JG) (d : Nat) (x1 : Int32) (x2 : Int32) (x3 : Int32) (x4 : Int32) (x5 : Int32) (σ : Mem) : JS G mX11_feed (d + 1) [.ref (G.1 + off 0), .int x1, .int x2, .int x3, .int x4, .int x5] σ rI (X11_feed x1 x2 x3 x4 x5 σ) := by
  refine JS_of 0 (by decide +kernel) (Nat.le_of_ble_eq_true rfl) (L := [some (.ref (G.1 + off 0)), some (.int x1), some (.int x2), some (.int x3), some (.int x4), some (.int x5)]) rfl ?_
  unfold X11_feed
  refine JO_aload_n (pc := 0) dX11_feed_0 rfl ?_
  refine JO_getI (pc := 1) fl_X11_87 rfl fkX11_tapeLength dX11_feed_1 ?_
  refine JO_bipush (pc := 4) (a := 20) dX11_feed_4 (by decide) ?_
  refine JO_iadd (pc := 6) dX11_feed_6 ?_
  refine JO_sipush (pc := 7) (a := 1600) dX11_feed_7 (by decide) ?_
  refine JO_icmp_le (pc := 10) (tgt := 15) dX11_feed_10 (by decide) ?_ ?_
  · refine JO_aload_n (pc := 15) dX11_feed_15 rfl ?_
    refine JO_iload_n (pc := 16) dX11_feed_16 rfl ?_
    refine JO_callVv (pc := 17) [.int x1] lk_X11_94 rfl (ci := 11) rfl shX11 (w_X11_putOnTape G d x1 σ) rfl rfl (Nat.le_of_ble_eq_true rfl) dX11_feed_17 (fun σ1 => ?_)
    refine JO_aload_n (pc := 20) dX11_feed_20 rfl ?_
    refine JO_iload_n (pc := 21) dX11_feed_21 rfl ?_
    refine JO_callVv (pc := 22) [.int x2] lk_X11_94 rfl (ci := 11) rfl shX11 (w_X11_putOnTape G d x2 σ1) rfl rfl (Nat.le_of_ble_eq_true rfl) dX11_feed_22 (fun σ2 => ?_)
    refine JO_aload_n (pc := 25) dX11_feed_25 rfl ?_
    refine JO_iload_n (pc := 26) dX11_feed_26 rfl ?_
    refine JO_callVv (pc := 27) [.int x3] lk_X11_94 rfl (ci := 11) rfl shX11 (w_X11_putOnTape G d x3 σ2) rfl rfl (Nat.le_of_ble_eq_true rfl) dX11_feed_27 (fun σ3 => ?_)
    refine JO_aload_n (pc := 30) dX11_feed_30 rfl ?_
    refine JO_iload (pc := 31) dX11_feed_31 rfl ?_
    refine JO_callVv (pc := 33) [.int x4] lk_X11_94 rfl (ci := 11) rfl shX11 (w_X11_putOnTape G d x4 σ3) rfl rfl (Nat.le_of_ble_eq_true rfl) dX11_feed_33 (fun σ4 => ?_)
    refine JO_aload_n (pc := 36) dX11_feed_36 rfl ?_
    refine JO_iload (pc := 37) dX11_feed_37 rfl ?_
    refine JO_callVv (pc := 39) [.int x5] lk_X11_94 rfl (ci := 11) rfl shX11 (w_X11_putOnTape G d x5 σ4) rfl rfl (Nat.le_of_ble_eq_true rfl) dX11_feed_39 (fun σ5 => ?_)
    refine JO_aload_n (pc := 42) dX11_feed_42 rfl ?_
    refine JO_getI (pc := 43) fl_X11_87 rfl fkX11_tapeLength dX11_feed_43 ?_
    exact JO_reti (pc := 46) rfl dX11_feed_46
  · refine JO_iconst (pc := 13) (a := (-1)) dX11_feed_13 (by decide) ?_
    exact JO_reti (pc := 14) rfl dX11_feed_14
set_option maxHeartbeats 4000000 in
set_option maxRecDepth 100000 in
theorem w_X11_end (G : JG) (d : Nat) (x1 : Int32) (σ : Mem) : JS G mX11_end d [.ref (G.1 + off 0), .int x1] σ rI (X11_end x1 σ) := by
  refine JS_of 0 (by decide +kernel) (Nat.le_of_ble_eq_true rfl) (L := [some (.ref (G.1 + off 0)), some (.int x1)]) rfl ?_
  unfold X11_end
  refine JO_iload_n (pc := 0) dX11_end_0 rfl ?_
  refine JO_if_lt (pc := 1) (tgt := 12) dX11_end_1 (by decide) ?_ ?_
  · refine JO_iconst (pc := 12) (a := (-1)) dX11_end_12 (by decide) ?_
    exact JO_reti (pc := 13) rfl dX11_end_13
  · refine JO_iload_n (pc := 4) dX11_end_4 rfl ?_
    refine JO_aload_n (pc := 5) dX11_end_5 rfl ?_
    refine JO_getI (pc := 6) fl_X11_87 rfl fkX11_tapeLength dX11_end_6 ?_
    refine JO_icmp_le (pc := 9) (tgt := 14) dX11_end_9 (by decide) ?_ ?_
    · refine JO_aload_n (pc := 14) dX11_end_14 rfl ?_
      refine JO_iload_n (pc := 15) dX11_end_15 rfl ?_
      refine JO_putI (pc := 16) fl_X11_87 rfl fkX11_tapeLength dX11_end_16 (fun σ1 => ?_)
      refine JO_iload_n (pc := 19) dX11_end_19 rfl ?_
      exact JO_reti (pc := 20) rfl dX11_end_20
    · refine JO_iconst (pc := 12) (a := (-1)) dX11_end_12 (by decide) ?_
      exact JO_reti (pc := 13) rfl dX11_end_13
set_option maxHeartbeats 4000000 in
set_option maxRecDepth 100000 in
theorem w_X11_town_78 (G : JG) (d : Nat) : ∀ (n : Nat) (x2 : Int32) (σ : Mem), JO G mX11_town (d + 110) 78 [some (.ref (G.1 + off 0)), none, some (.int x2)] [] σ rI (X11_town_78 n x2 σ) := by
  intro n
  induction n with
  | zero =>
    intro x2 σ
    exact JO_none
  | succ n ih =>
    intro x2 σ
    rw [X11_town_78]
    refine JO_iload_n (pc := 78) dX11_town_78 rfl ?_
    refine JO_iconst (pc := 79) (a := 3) dX11_town_79 (by decide) ?_
    refine JO_icmp_ge (pc := 80) (tgt := 96) dX11_town_80 (by decide) ?_ ?_
    · refine JO_aload_n (pc := 96) dX11_town_96 rfl ?_
      refine JO_getT (pc := 97) fl_X11_83 rfl fkX11_told dX11_town_97 (fun q13 hq13 => ?_)
      refine JO_getI (pc := 100) fl_X11_116 rfl (fkTown_people hq13) dX11_town_100 ?_
      exact JO_reti (pc := 103) rfl dX11_town_103
    · refine JO_aload_n (pc := 83) dX11_town_83 rfl ?_
      refine JO_getR (pc := 84) fl_X11_73 rfl fkX11_boxFilled dX11_town_84 ?_
      refine JO_iload_n (pc := 87) dX11_town_87 rfl ?_
      refine JO_iconst (pc := 88) (a := 0) dX11_town_88 (by decide) ?_
      refine JO_zastc (pc := 89) akX11_boxFilled (by decide) dX11_town_89 (fun σ14 => ?_)
      refine JO_inc (pc := 90) (b := 1) (L' := fun v15 => [some (.ref (G.1 + off 0)), none, some (.int v15)]) dX11_town_90 rfl rfl (by decide) rfl (fun _ => rfl) (fun v15 => ?_)
      refine JO_goto (pc := 93) (tgt := 78) dX11_town_93 (by decide) ?_
      exact JO_sub (l_sub_some (l_sub_none (l_sub_some (l_sub_nil)))) (ih v15 σ14)
set_option maxHeartbeats 4000000 in
set_option maxRecDepth 100000 in
theorem w_X11_town (G : JG) (d : Nat) (σ : Mem) : JS G mX11_town (d + 110) [.ref (G.1 + off 0)] σ rI (X11_town σ) := by
  refine JS_of 2 (by decide +kernel) (Nat.le_of_ble_eq_true rfl) (L := [some (.ref (G.1 + off 0)), none, none]) rfl ?_
  unfold X11_town
  refine JO_aload_n (pc := 0) dX11_town_0 rfl ?_
  refine JO_getR (pc := 1) fl_X11_16 rfl fkX11_reader dX11_town_1 ?_
  refine JO_aload_n (pc := 4) dX11_town_4 rfl ?_
  refine JO_getR (pc := 5) fl_X11_9 rfl fkX11_tape dX11_town_5 ?_
  refine JO_aload_n (pc := 8) dX11_town_8 rfl ?_
  refine JO_getI (pc := 9) fl_X11_87 rfl fkX11_tapeLength dX11_town_9 ?_
  refine JO_callVi (pc := 12) [.ref (G.1 + off 1), .int (σ.1 0 13)] lk_X11_98 rfl (ci := 5) rfl shX5 (w_X5_read G d (σ.1 0 13) σ) rfl rfl (Nat.le_of_ble_eq_true rfl) dX11_town_12 (fun r1 => ?_)
  refine JO_nm (fun v2 => ?_)
  refine JO_istore_n (pc := 15) (L' := [some (.ref (G.1 + off 0)), some (.int v2), none]) dX11_town_15 rfl rfl rfl ?_
  refine JO_aload_n (pc := 16) dX11_town_16 rfl ?_
  refine JO_iconst (pc := 17) (a := 0) dX11_town_17 (by decide) ?_
  refine JO_putI (pc := 18) fl_X11_87 rfl fkX11_tapeLength dX11_town_18 (fun σ3 => ?_)
  refine JO_iload_n (pc := 21) dX11_town_21 rfl ?_
  refine JO_if_ne (pc := 22) (tgt := 27) dX11_town_22 (by decide) ?_ ?_
  · refine JO_aload_n (pc := 27) dX11_town_27 rfl ?_
    refine JO_aload_n (pc := 28) dX11_town_28 rfl ?_
    refine JO_getR (pc := 29) fl_X11_16 rfl fkX11_reader dX11_town_29 ?_
    refine JO_aload_n (pc := 32) dX11_town_32 rfl ?_
    refine JO_getT (pc := 33) fl_X11_83 rfl fkX11_told dX11_town_33 (fun q4 hq4 => ?_)
    refine JO_callVr (pc := 36) [.ref (G.1 + off q4)] lk_X11_102 rfl (ci := 5) rfl shX5 (w_X5_exchange G (d + 109) q4 hq4 σ3) rfl rfl (Nat.le_of_ble_eq_true rfl) dX11_town_36 (fun r5 => ?_)
    refine JO_ite (fun hr5 => ?_) (fun _ => JO_none)
    refine JO_putM (pc := 39) fl_X11_83 rfl (by rcases hr5 with h9 | h9 <;> omega) (fun _ => rfl) (fun _ => rfl) fkX11_told dX11_town_39 (fun σ6 => ?_)
    refine JO_aload_n (pc := 42) dX11_town_42 rfl ?_
    refine JO_getR (pc := 43) fl_X11_23 rfl fkX11_now dX11_town_43 ?_
    refine JO_aload_n (pc := 46) dX11_town_46 rfl ?_
    refine JO_getT (pc := 47) fl_X11_83 rfl fkX11_told dX11_town_47 (fun q7 hq7 => ?_)
    refine JO_callVv (pc := 50) [.ref (G.1 + off q7)] lk_X11_106 rfl (ci := 7) rfl (shState (by unfold isState; decide)) (w_X7_begin G (d + 108) 31 q7 (by unfold isState; decide) hq7 σ6) rfl rfl (Nat.le_of_ble_eq_true rfl) dX11_town_50 (fun σ8 => ?_)
    refine JO_aload_n (pc := 53) dX11_town_53 rfl ?_
    refine JO_getR (pc := 54) fl_X11_30 rfl fkX11_history dX11_town_54 ?_
    refine JO_aload_n (pc := 57) dX11_town_57 rfl ?_
    refine JO_getR (pc := 58) fl_X11_23 rfl fkX11_now dX11_town_58 ?_
    refine JO_callVv (pc := 61) [.ref (G.1 + off 31)] lk_X11_110 rfl (ci := 3) rfl shX3 (w_X3_begin G (d + 107) 31 (by unfold isState; decide) σ8) rfl rfl (Nat.le_of_ble_eq_true rfl) dX11_town_61 (fun σ9 => ?_)
    refine JO_aload_n (pc := 64) dX11_town_64 rfl ?_
    refine JO_getR (pc := 65) fl_X11_65 rfl fkX11_steps dX11_town_65 ?_
    refine JO_callVv (pc := 68) [] lk_X11_113 rfl (ci := 8) rfl shX8 (w_X8_forget G (d + 109)  σ9) rfl rfl (Nat.le_of_ble_eq_true rfl) dX11_town_68 (fun σ10 => ?_)
    refine JO_aload_n (pc := 71) dX11_town_71 rfl ?_
    refine JO_iconst (pc := 72) (a := 0) dX11_town_72 (by decide) ?_
    refine JO_putI (pc := 73) fl_X11_91 rfl fkX11_lyingCount dX11_town_73 (fun σ11 => ?_)
    refine JO_iconst (pc := 76) (a := 0) dX11_town_76 (by decide) ?_
    refine JO_nm (fun v12 => ?_)
    refine JO_istore_n (pc := 77) (L' := [some (.ref (G.1 + off 0)), some (.int v2), some (.int v12)]) dX11_town_77 rfl rfl rfl ?_
    exact JO_sub (l_sub_some (l_sub_none (l_sub_some (l_sub_nil)))) (w_X11_town_78 G d fu v12 σ11)
  · refine JO_iconst (pc := 25) (a := (-1)) dX11_town_25 (by decide) ?_
    exact JO_reti (pc := 26) rfl dX11_town_26
set_option maxHeartbeats 4000000 in
set_option maxRecDepth 100000 in
theorem w_X11_fault (G : JG) (d : Nat) (x1 : Int32) (σ : Mem) : JS G mX11_fault d [.ref (G.1 + off 0), .int x1] σ rI (X11_fault x1 σ) := by
  refine JS_of 0 (by decide +kernel) (Nat.le_of_ble_eq_true rfl) (L := [some (.ref (G.1 + off 0)), some (.int x1)]) rfl ?_
  unfold X11_fault
  refine JO_iload_n (pc := 0) dX11_fault_0 rfl ?_
  refine JO_if_ne (pc := 1) (tgt := 12) dX11_fault_1 (by decide) ?_ ?_
  · refine JO_iload_n (pc := 12) dX11_fault_12 rfl ?_
    refine JO_iconst (pc := 13) (a := 1) dX11_fault_13 (by decide) ?_
    refine JO_icmp_ne (pc := 14) (tgt := 27) dX11_fault_14 (by decide) ?_ ?_
    · refine JO_iconst (pc := 27) (a := (-1)) dX11_fault_27 (by decide) ?_
      exact JO_reti (pc := 28) rfl dX11_fault_28
    · refine JO_aload_n (pc := 17) dX11_fault_17 rfl ?_
      refine JO_getR (pc := 18) fl_X11_16 rfl fkX11_reader dX11_fault_18 ?_
      refine JO_getI (pc := 21) fl_X11_122 rfl fkX5_faultPlace dX11_fault_21 ?_
      refine JO_goto (pc := 24) (tgt := 28) dX11_fault_24 (by decide) ?_
      exact JO_reti (pc := 28) rfl dX11_fault_28
  · refine JO_aload_n (pc := 4) dX11_fault_4 rfl ?_
    refine JO_getR (pc := 5) fl_X11_16 rfl fkX11_reader dX11_fault_5 ?_
    refine JO_getI (pc := 8) fl_X11_119 rfl fkX5_fault dX11_fault_8 ?_
    exact JO_reti (pc := 11) rfl dX11_fault_11
set_option maxHeartbeats 4000000 in
set_option maxRecDepth 100000 in
theorem w_X11_isPerson (G : JG) (d : Nat) (x1 : Int32) (σ : Mem) : JS G mX11_isPerson d [.ref (G.1 + off 0), .int x1] σ rI (X11_isPerson x1 σ) := by
  refine JS_of 0 (by decide +kernel) (Nat.le_of_ble_eq_true rfl) (L := [some (.ref (G.1 + off 0)), some (.int x1)]) rfl ?_
  unfold X11_isPerson
  refine JO_iload_n (pc := 0) dX11_isPerson_0 rfl ?_
  refine JO_if_lt (pc := 1) (tgt := 19) dX11_isPerson_1 (by decide) ?_ ?_
  · refine JO_iconst (pc := 19) (a := 0) dX11_isPerson_19 (by decide) ?_
    exact JO_retzc (pc := 20) (by decide) rfl dX11_isPerson_20
  · refine JO_iload_n (pc := 4) dX11_isPerson_4 rfl ?_
    refine JO_aload_n (pc := 5) dX11_isPerson_5 rfl ?_
    refine JO_getT (pc := 6) fl_X11_83 rfl fkX11_told dX11_isPerson_6 (fun q1 hq1 => ?_)
    refine JO_getI (pc := 9) fl_X11_116 rfl (fkTown_people hq1) dX11_isPerson_9 ?_
    refine JO_icmp_ge (pc := 12) (tgt := 19) dX11_isPerson_12 (by decide) ?_ ?_
    · refine JO_iconst (pc := 19) (a := 0) dX11_isPerson_19 (by decide) ?_
      exact JO_retzc (pc := 20) (by decide) rfl dX11_isPerson_20
    · refine JO_iconst (pc := 15) (a := 1) dX11_isPerson_15 (by decide) ?_
      refine JO_goto (pc := 16) (tgt := 20) dX11_isPerson_16 (by decide) ?_
      exact JO_retzc (pc := 20) (by decide) rfl dX11_isPerson_20
set_option maxHeartbeats 4000000 in
set_option maxRecDepth 100000 in
theorem w_X11_person (G : JG) (d : Nat) (x1 : Int32) (x2 : Int32) (σ : Mem) : JS G mX11_person (d + 1) [.ref (G.1 + off 0), .int x1, .int x2] σ rI (X11_person x1 x2 σ) := by
  refine JS_of 0 (by decide +kernel) (Nat.le_of_ble_eq_true rfl) (L := [some (.ref (G.1 + off 0)), some (.int x1), some (.int x2)]) rfl ?_
  unfold X11_person
  refine JO_aload_n (pc := 0) dX11_person_0 rfl ?_
  refine JO_iload_n (pc := 1) dX11_person_1 rfl ?_
  refine JO_callVi (pc := 2) [.int x1] lk_X11_125 rfl (ci := 11) rfl shX11 (w_X11_isPerson G d x1 σ) rfl rfl (Nat.le_of_ble_eq_true rfl) dX11_person_2 (fun r1 => ?_)
  refine JO_if_ne (pc := 5) (tgt := 11) dX11_person_5 (by decide) ?_ ?_
  · refine JO_iload_n (pc := 11) dX11_person_11 rfl ?_
    refine JO_ite (fun hc0 => ?_) (fun hc0 => ?_)
    · rw [hc0]
      refine JO_tin (pc := 12) (tgt := 68) dX11_person_12 (by decide) (by decide) rfl (by decide) ?_
      refine JO_aload_n (pc := 68) dX11_person_68 rfl ?_
      refine JO_getR (pc := 69) fl_X11_23 rfl fkX11_now dX11_person_69 ?_
      refine JO_getR (pc := 72) fl_X11_129 rfl (fkState_place (by unfold isState; decide)) dX11_person_72 ?_
      refine JO_iload_n (pc := 75) dX11_person_75 rfl ?_
      refine JO_iald (pc := 76) (akState_place (by unfold isState; decide)) dX11_person_76 ?_
      exact JO_reti (pc := 77) rfl dX11_person_77
    refine JO_ite (fun hc1 => ?_) (fun hc1 => ?_)
    · rw [hc1]
      refine JO_tin (pc := 12) (tgt := 78) dX11_person_12 (by decide) (by decide) rfl (by decide) ?_
      refine JO_aload_n (pc := 78) dX11_person_78 rfl ?_
      refine JO_getR (pc := 79) fl_X11_23 rfl fkX11_now dX11_person_79 ?_
      refine JO_getR (pc := 82) fl_X11_132 rfl (fkState_aim (by unfold isState; decide)) dX11_person_82 ?_
      refine JO_iload_n (pc := 85) dX11_person_85 rfl ?_
      refine JO_iald (pc := 86) (akState_aim (by unfold isState; decide)) dX11_person_86 ?_
      exact JO_reti (pc := 87) rfl dX11_person_87
    refine JO_ite (fun hc2 => ?_) (fun hc2 => ?_)
    · rw [hc2]
      refine JO_tin (pc := 12) (tgt := 88) dX11_person_12 (by decide) (by decide) rfl (by decide) ?_
      refine JO_aload_n (pc := 88) dX11_person_88 rfl ?_
      refine JO_getR (pc := 89) fl_X11_23 rfl fkX11_now dX11_person_89 ?_
      refine JO_getR (pc := 92) fl_X11_135 rfl (fkState_stand (by unfold isState; decide)) dX11_person_92 ?_
      refine JO_iload_n (pc := 95) dX11_person_95 rfl ?_
      refine JO_iald (pc := 96) (akState_stand (by unfold isState; decide)) dX11_person_96 ?_
      exact JO_reti (pc := 97) rfl dX11_person_97
    refine JO_ite (fun hc3 => ?_) (fun hc3 => ?_)
    · rw [hc3]
      refine JO_tin (pc := 12) (tgt := 98) dX11_person_12 (by decide) (by decide) rfl (by decide) ?_
      refine JO_aload_n (pc := 98) dX11_person_98 rfl ?_
      refine JO_getR (pc := 99) fl_X11_23 rfl fkX11_now dX11_person_99 ?_
      refine JO_getR (pc := 102) fl_X11_138 rfl (fkState_coin (by unfold isState; decide)) dX11_person_102 ?_
      refine JO_iload_n (pc := 105) dX11_person_105 rfl ?_
      refine JO_iald (pc := 106) (akState_coin (by unfold isState; decide)) dX11_person_106 ?_
      exact JO_reti (pc := 107) rfl dX11_person_107
    refine JO_ite (fun hc4 => ?_) (fun hc4 => ?_)
    · rw [hc4]
      refine JO_tin (pc := 12) (tgt := 108) dX11_person_12 (by decide) (by decide) rfl (by decide) ?_
      refine JO_aload_n (pc := 108) dX11_person_108 rfl ?_
      refine JO_getT (pc := 109) fl_X11_83 rfl fkX11_told dX11_person_109 (fun q2 hq2 => ?_)
      refine JO_getR (pc := 112) fl_X11_141 rfl (fkTown_door hq2) dX11_person_112 ?_
      refine JO_iload_n (pc := 115) dX11_person_115 rfl ?_
      refine JO_iald (pc := 116) (akTown_door hq2) dX11_person_116 ?_
      exact JO_reti (pc := 117) rfl dX11_person_117
    refine JO_ite (fun hc5 => ?_) (fun hc5 => ?_)
    · rw [hc5]
      refine JO_tin (pc := 12) (tgt := 118) dX11_person_12 (by decide) (by decide) rfl (by decide) ?_
      refine JO_aload_n (pc := 118) dX11_person_118 rfl ?_
      refine JO_getT (pc := 119) fl_X11_83 rfl fkX11_told dX11_person_119 (fun q3 hq3 => ?_)
      refine JO_getR (pc := 122) fl_X11_144 rfl (fkTown_from hq3) dX11_person_122 ?_
      refine JO_iload_n (pc := 125) dX11_person_125 rfl ?_
      refine JO_iald (pc := 126) (akTown_from hq3) dX11_person_126 ?_
      exact JO_reti (pc := 127) rfl dX11_person_127
    refine JO_ite (fun hc6 => ?_) (fun hc6 => ?_)
    · rw [hc6]
      refine JO_tin (pc := 12) (tgt := 128) dX11_person_12 (by decide) (by decide) rfl (by decide) ?_
      refine JO_aload_n (pc := 128) dX11_person_128 rfl ?_
      refine JO_getT (pc := 129) fl_X11_83 rfl fkX11_told dX11_person_129 (fun q4 hq4 => ?_)
      refine JO_getR (pc := 132) fl_X11_147 rfl (fkTown_to hq4) dX11_person_132 ?_
      refine JO_iload_n (pc := 135) dX11_person_135 rfl ?_
      refine JO_iald (pc := 136) (akTown_to hq4) dX11_person_136 ?_
      exact JO_reti (pc := 137) rfl dX11_person_137
    refine JO_ite (fun hc7 => ?_) (fun hc7 => ?_)
    · rw [hc7]
      refine JO_tin (pc := 12) (tgt := 138) dX11_person_12 (by decide) (by decide) rfl (by decide) ?_
      refine JO_aload_n (pc := 138) dX11_person_138 rfl ?_
      refine JO_getT (pc := 139) fl_X11_83 rfl fkX11_told dX11_person_139 (fun q5 hq5 => ?_)
      refine JO_getR (pc := 142) fl_X11_150 rfl (fkTown_chairs hq5) dX11_person_142 ?_
      refine JO_iload_n (pc := 145) dX11_person_145 rfl ?_
      refine JO_iald (pc := 146) (akTown_chairs hq5) dX11_person_146 ?_
      exact JO_reti (pc := 147) rfl dX11_person_147
    refine JO_ite (fun hc8 => ?_) (fun hc8 => ?_)
    · rw [hc8]
      refine JO_tin (pc := 12) (tgt := 148) dX11_person_12 (by decide) (by decide) rfl (by decide) ?_
      refine JO_aload_n (pc := 148) dX11_person_148 rfl ?_
      refine JO_getT (pc := 149) fl_X11_83 rfl fkX11_told dX11_person_149 (fun q6 hq6 => ?_)
      refine JO_getR (pc := 152) fl_X11_153 rfl (fkTown_rest hq6) dX11_person_152 ?_
      refine JO_iload_n (pc := 155) dX11_person_155 rfl ?_
      refine JO_iald (pc := 156) (akTown_rest hq6) dX11_person_156 ?_
      exact JO_reti (pc := 157) rfl dX11_person_157
    refine JO_ite (fun hc9 => ?_) (fun hc9 => ?_)
    · rw [hc9]
      refine JO_tin (pc := 12) (tgt := 158) dX11_person_12 (by decide) (by decide) rfl (by decide) ?_
      refine JO_aload_n (pc := 158) dX11_person_158 rfl ?_
      refine JO_getT (pc := 159) fl_X11_83 rfl fkX11_told dX11_person_159 (fun q7 hq7 => ?_)
      refine JO_getR (pc := 162) fl_X11_156 rfl (fkTown_price hq7) dX11_person_162 ?_
      refine JO_iload_n (pc := 165) dX11_person_165 rfl ?_
      refine JO_iald (pc := 166) (akTown_price hq7) dX11_person_166 ?_
      exact JO_reti (pc := 167) rfl dX11_person_167
    have z0 : x2.toInt ≠ 0 := ne_toInt hc0
    have z1 : x2.toInt ≠ 1 := ne_toInt hc1
    have z2 : x2.toInt ≠ 2 := ne_toInt hc2
    have z3 : x2.toInt ≠ 3 := ne_toInt hc3
    have z4 : x2.toInt ≠ 4 := ne_toInt hc4
    have z5 : x2.toInt ≠ 5 := ne_toInt hc5
    have z6 : x2.toInt ≠ 6 := ne_toInt hc6
    have z7 : x2.toInt ≠ 7 := ne_toInt hc7
    have z8 : x2.toInt ≠ 8 := ne_toInt hc8
    have z9 : x2.toInt ≠ 9 := ne_toInt hc9
    refine JO_tout (pc := 12) (tgt := 168) dX11_person_12 (by omega) (by decide) ?_
    refine JO_bipush (pc := 168) (a := (-2)) dX11_person_168 (by decide) ?_
    exact JO_reti (pc := 170) rfl dX11_person_170
  · refine JO_bipush (pc := 8) (a := (-2)) dX11_person_8 (by decide) ?_
    exact JO_reti (pc := 10) rfl dX11_person_10
set_option maxHeartbeats 4000000 in
set_option maxRecDepth 100000 in
theorem w_X11_isPair (G : JG) (d : Nat) (x1 : Int32) (x2 : Int32) (σ : Mem) : JS G mX11_isPair (d + 1) [.ref (G.1 + off 0), .int x1, .int x2] σ rI (X11_isPair x1 x2 σ) := by
  refine JS_of 0 (by decide +kernel) (Nat.le_of_ble_eq_true rfl) (L := [some (.ref (G.1 + off 0)), some (.int x1), some (.int x2)]) rfl ?_
  unfold X11_isPair
  refine JO_aload_n (pc := 0) dX11_isPair_0 rfl ?_
  refine JO_iload_n (pc := 1) dX11_isPair_1 rfl ?_
  refine JO_callVi (pc := 2) [.int x1] lk_X11_125 rfl (ci := 11) rfl shX11 (w_X11_isPerson G d x1 σ) rfl rfl (Nat.le_of_ble_eq_true rfl) dX11_isPair_2 (fun r1 => ?_)
  refine JO_if_eq (pc := 5) (tgt := 25) dX11_isPair_5 (by decide) ?_ ?_
  · refine JO_iconst (pc := 25) (a := 0) dX11_isPair_25 (by decide) ?_
    exact JO_retzc (pc := 26) (by decide) rfl dX11_isPair_26
  · refine JO_aload_n (pc := 8) dX11_isPair_8 rfl ?_
    refine JO_iload_n (pc := 9) dX11_isPair_9 rfl ?_
    refine JO_callVi (pc := 10) [.int x2] lk_X11_125 rfl (ci := 11) rfl shX11 (w_X11_isPerson G d x2 r1.2) rfl rfl (Nat.le_of_ble_eq_true rfl) dX11_isPair_10 (fun r2 => ?_)
    refine JO_if_eq (pc := 13) (tgt := 25) dX11_isPair_13 (by decide) ?_ ?_
    · refine JO_iconst (pc := 25) (a := 0) dX11_isPair_25 (by decide) ?_
      exact JO_retzc (pc := 26) (by decide) rfl dX11_isPair_26
    · refine JO_iload_n (pc := 16) dX11_isPair_16 rfl ?_
      refine JO_iload_n (pc := 17) dX11_isPair_17 rfl ?_
      refine JO_icmp_eq (pc := 18) (tgt := 25) dX11_isPair_18 (by decide) ?_ ?_
      · refine JO_iconst (pc := 25) (a := 0) dX11_isPair_25 (by decide) ?_
        exact JO_retzc (pc := 26) (by decide) rfl dX11_isPair_26
      · refine JO_iconst (pc := 21) (a := 1) dX11_isPair_21 (by decide) ?_
        refine JO_goto (pc := 22) (tgt := 26) dX11_isPair_22 (by decide) ?_
        exact JO_retzc (pc := 26) (by decide) rfl dX11_isPair_26
set_option maxHeartbeats 4000000 in
set_option maxRecDepth 100000 in
theorem w_X11_owed (G : JG) (d : Nat) (x1 : Int32) (x2 : Int32) (σ : Mem) : JS G mX11_owed (d + 2) [.ref (G.1 + off 0), .int x1, .int x2] σ rI (X11_owed x1 x2 σ) := by
  refine JS_of 0 (by decide +kernel) (Nat.le_of_ble_eq_true rfl) (L := [some (.ref (G.1 + off 0)), some (.int x1), some (.int x2)]) rfl ?_
  unfold X11_owed
  refine JO_aload_n (pc := 0) dX11_owed_0 rfl ?_
  refine JO_iload_n (pc := 1) dX11_owed_1 rfl ?_
  refine JO_iload_n (pc := 2) dX11_owed_2 rfl ?_
  refine JO_callVi (pc := 3) [.int x1, .int x2] lk_X11_159 rfl (ci := 11) rfl shX11 (w_X11_isPair G d x1 x2 σ) rfl rfl (Nat.le_of_ble_eq_true rfl) dX11_owed_3 (fun r1 => ?_)
  refine JO_if_eq (pc := 6) (tgt := 25) dX11_owed_6 (by decide) ?_ ?_
  · refine JO_iconst (pc := 25) (a := (-1)) dX11_owed_25 (by decide) ?_
    exact JO_reti (pc := 26) rfl dX11_owed_26
  · refine JO_aload_n (pc := 9) dX11_owed_9 rfl ?_
    refine JO_getR (pc := 10) fl_X11_23 rfl fkX11_now dX11_owed_10 ?_
    refine JO_getR (pc := 13) fl_X11_163 rfl (fkState_debt (by unfold isState; decide)) dX11_owed_13 ?_
    refine JO_iload_n (pc := 16) dX11_owed_16 rfl ?_
    refine JO_iload_n (pc := 17) dX11_owed_17 rfl ?_
    refine JO_callSi (pc := 18) [.int x1, .int x2] lk_X11_166 rfl (w_X11_cell G (d + 1) x1 x2 r1.2) rfl rfl (Nat.le_of_ble_eq_true rfl) dX11_owed_18 (fun r2 => ?_)
    refine JO_iald (pc := 21) (akState_debt (by unfold isState; decide)) dX11_owed_21 ?_
    refine JO_goto (pc := 22) (tgt := 26) dX11_owed_22 (by decide) ?_
    exact JO_reti (pc := 26) rfl dX11_owed_26
set_option maxHeartbeats 4000000 in
set_option maxRecDepth 100000 in
theorem w_X11_sum (G : JG) (d : Nat) (x1 : Int32) (x2 : Int32) (σ : Mem) : JS G mX11_sum (d + 2) [.ref (G.1 + off 0), .int x1, .int x2] σ rI (X11_sum x1 x2 σ) := by
  refine JS_of 0 (by decide +kernel) (Nat.le_of_ble_eq_true rfl) (L := [some (.ref (G.1 + off 0)), some (.int x1), some (.int x2)]) rfl ?_
  unfold X11_sum
  refine JO_aload_n (pc := 0) dX11_sum_0 rfl ?_
  refine JO_iload_n (pc := 1) dX11_sum_1 rfl ?_
  refine JO_callVi (pc := 2) [.int x1] lk_X11_125 rfl (ci := 11) rfl shX11 (w_X11_isPerson G (d + 1) x1 σ) rfl rfl (Nat.le_of_ble_eq_true rfl) dX11_sum_2 (fun r1 => ?_)
  refine JO_if_ne (pc := 5) (tgt := 10) dX11_sum_5 (by decide) ?_ ?_
  · refine JO_iload_n (pc := 10) dX11_sum_10 rfl ?_
    refine JO_if_eq (pc := 11) (tgt := 25) dX11_sum_11 (by decide) ?_ ?_
    · refine JO_aload_n (pc := 25) dX11_sum_25 rfl ?_
      refine JO_getR (pc := 26) fl_X11_23 rfl fkX11_now dX11_sum_26 ?_
      refine JO_iload_n (pc := 29) dX11_sum_29 rfl ?_
      refine JO_callVi (pc := 30) [.int x1] lk_X11_174 rfl (ci := 7) rfl (shState (by unfold isState; decide)) (w_X7_owedBy G d 31 (by unfold isState; decide) x1 r1.2) rfl rfl (Nat.le_of_ble_eq_true rfl) dX11_sum_30 (fun r2 => ?_)
      exact JO_reti (pc := 33) rfl dX11_sum_33
    · refine JO_aload_n (pc := 14) dX11_sum_14 rfl ?_
      refine JO_getR (pc := 15) fl_X11_23 rfl fkX11_now dX11_sum_15 ?_
      refine JO_iload_n (pc := 18) dX11_sum_18 rfl ?_
      refine JO_callVi (pc := 19) [.int x1] lk_X11_170 rfl (ci := 7) rfl (shState (by unfold isState; decide)) (w_X7_owedTo G d 31 (by unfold isState; decide) x1 r1.2) rfl rfl (Nat.le_of_ble_eq_true rfl) dX11_sum_19 (fun r3 => ?_)
      refine JO_goto (pc := 22) (tgt := 33) dX11_sum_22 (by decide) ?_
      exact JO_reti (pc := 33) rfl dX11_sum_33
  · refine JO_iconst (pc := 8) (a := (-1)) dX11_sum_8 (by decide) ?_
    exact JO_reti (pc := 9) rfl dX11_sum_9
set_option maxHeartbeats 4000000 in
set_option maxRecDepth 100000 in
theorem w_X11_wet (G : JG) (d : Nat) (x1 : Int32) (x2 : Int32) (σ : Mem) : JS G mX11_wet (d + 2) [.ref (G.1 + off 0), .int x1, .int x2] σ rI (X11_wet x1 x2 σ) := by
  refine JS_of 0 (by decide +kernel) (Nat.le_of_ble_eq_true rfl) (L := [some (.ref (G.1 + off 0)), some (.int x1), some (.int x2)]) rfl ?_
  unfold X11_wet
  refine JO_iload_n (pc := 0) dX11_wet_0 rfl ?_
  refine JO_if_lt (pc := 1) (tgt := 26) dX11_wet_1 (by decide) ?_ ?_
  · refine JO_iconst (pc := 26) (a := (-1)) dX11_wet_26 (by decide) ?_
    exact JO_reti (pc := 27) rfl dX11_wet_27
  · refine JO_iload_n (pc := 4) dX11_wet_4 rfl ?_
    refine JO_sipush (pc := 5) (a := 999) dX11_wet_5 (by decide) ?_
    refine JO_icmp_gt (pc := 8) (tgt := 26) dX11_wet_8 (by decide) ?_ ?_
    · refine JO_iconst (pc := 26) (a := (-1)) dX11_wet_26 (by decide) ?_
      exact JO_reti (pc := 27) rfl dX11_wet_27
    · refine JO_iload_n (pc := 11) dX11_wet_11 rfl ?_
      refine JO_if_lt (pc := 12) (tgt := 26) dX11_wet_12 (by decide) ?_ ?_
      · refine JO_iconst (pc := 26) (a := (-1)) dX11_wet_26 (by decide) ?_
        exact JO_reti (pc := 27) rfl dX11_wet_27
      · refine JO_iload_n (pc := 15) dX11_wet_15 rfl ?_
        refine JO_aload_n (pc := 16) dX11_wet_16 rfl ?_
        refine JO_getT (pc := 17) fl_X11_83 rfl fkX11_told dX11_wet_17 (fun q1 hq1 => ?_)
        refine JO_getI (pc := 20) fl_X11_177 rfl (fkTown_day hq1) dX11_wet_20 ?_
        refine JO_icmp_lt (pc := 23) (tgt := 28) dX11_wet_23 (by decide) ?_ ?_
        · refine JO_aload_n (pc := 28) dX11_wet_28 rfl ?_
          refine JO_getR (pc := 29) fl_X11_37 rfl fkX11_clock dX11_wet_29 ?_
          refine JO_aload_n (pc := 32) dX11_wet_32 rfl ?_
          refine JO_getT (pc := 33) fl_X11_83 rfl fkX11_told dX11_wet_33 (fun q2 hq2 => ?_)
          refine JO_iload_n (pc := 36) dX11_wet_36 rfl ?_
          refine JO_iload_n (pc := 37) dX11_wet_37 rfl ?_
          refine JO_callVi (pc := 38) [.ref (G.1 + off q2), .int x1, .int x2] lk_X11_180 rfl (ci := 0) rfl (shClock (by unfold isClock; decide)) (w_X0_wetness G d 39 q2 (by unfold isClock; decide) hq2 x1 x2 σ) rfl rfl (Nat.le_of_ble_eq_true rfl) dX11_wet_38 (fun r3 => ?_)
          exact JO_reti (pc := 41) rfl dX11_wet_41
        · refine JO_iconst (pc := 26) (a := (-1)) dX11_wet_26 (by decide) ?_
          exact JO_reti (pc := 27) rfl dX11_wet_27
set_option maxHeartbeats 4000000 in
set_option maxRecDepth 100000 in
theorem w_X11_pays (G : JG) (d : Nat) (x1 : Int32) (σ : Mem) : JS G mX11_pays (d + 6) [.ref (G.1 + off 0), .int x1] σ rI (X11_pays x1 σ) := by
  refine JS_of 0 (by decide +kernel) (Nat.le_of_ble_eq_true rfl) (L := [some (.ref (G.1 + off 0)), some (.int x1)]) rfl ?_
  unfold X11_pays
  refine JO_aload_n (pc := 0) dX11_pays_0 rfl ?_
  refine JO_iload_n (pc := 1) dX11_pays_1 rfl ?_
  refine JO_callVi (pc := 2) [.int x1] lk_X11_125 rfl (ci := 11) rfl shX11 (w_X11_isPerson G (d + 5) x1 σ) rfl rfl (Nat.le_of_ble_eq_true rfl) dX11_pays_2 (fun r1 => ?_)
  refine JO_if_eq (pc := 5) (tgt := 27) dX11_pays_5 (by decide) ?_ ?_
  · refine JO_iconst (pc := 27) (a := (-1)) dX11_pays_27 (by decide) ?_
    exact JO_reti (pc := 28) rfl dX11_pays_28
  · refine JO_aload_n (pc := 8) dX11_pays_8 rfl ?_
    refine JO_getR (pc := 9) fl_X11_44 rfl fkX11_foresight dX11_pays_9 ?_
    refine JO_aload_n (pc := 12) dX11_pays_12 rfl ?_
    refine JO_getT (pc := 13) fl_X11_83 rfl fkX11_told dX11_pays_13 (fun q2 hq2 => ?_)
    refine JO_aload_n (pc := 16) dX11_pays_16 rfl ?_
    refine JO_getR (pc := 17) fl_X11_23 rfl fkX11_now dX11_pays_17 ?_
    refine JO_iload_n (pc := 20) dX11_pays_20 rfl ?_
    refine JO_callVi (pc := 21) [.ref (G.1 + off q2), .ref (G.1 + off 31), .int x1] lk_X11_184 rfl (ci := 1) rfl shX1 (w_X1_payOfNextHour G d q2 31 hq2 (by unfold isState; decide) x1 r1.2) rfl rfl (Nat.le_of_ble_eq_true rfl) dX11_pays_21 (fun r3 => ?_)
    refine JO_goto (pc := 24) (tgt := 28) dX11_pays_24 (by decide) ?_
    exact JO_reti (pc := 28) rfl dX11_pays_28
set_option maxHeartbeats 4000000 in
set_option maxRecDepth 100000 in
theorem w_X11_aim_25 (G : JG) (d : Nat) : ∀ (x1 : Int32) (x2 : Int32) (σ : Mem), JO G mX11_aim (d + 3) 25 [some (.ref (G.1 + off 0)), some (.int x1), some (.int x2), none] [] σ rI (X11_aim_25 x1 x2 σ) := by
  intro x1 x2 σ
  unfold X11_aim_25
  refine JO_aload_n (pc := 25) dX11_aim_25 rfl ?_
  refine JO_getR (pc := 26) fl_X11_23 rfl fkX11_now dX11_aim_26 ?_
  refine JO_getR (pc := 29) fl_X11_132 rfl (fkState_aim (by unfold isState; decide)) dX11_aim_29 ?_
  refine JO_iload_n (pc := 32) dX11_aim_32 rfl ?_
  refine JO_iald (pc := 33) (akState_aim (by unfold isState; decide)) dX11_aim_33 ?_
  refine JO_nm (fun v3 => ?_)
  refine JO_istore_n (pc := 34) (L' := [some (.ref (G.1 + off 0)), some (.int x1), some (.int x2), some (.int v3)]) dX11_aim_34 rfl rfl rfl ?_
  refine JO_aload_n (pc := 35) dX11_aim_35 rfl ?_
  refine JO_getR (pc := 36) fl_X11_23 rfl fkX11_now dX11_aim_36 ?_
  refine JO_getR (pc := 39) fl_X11_132 rfl (fkState_aim (by unfold isState; decide)) dX11_aim_39 ?_
  refine JO_iload_n (pc := 42) dX11_aim_42 rfl ?_
  refine JO_iload_n (pc := 43) dX11_aim_43 rfl ?_
  refine JO_iast (pc := 44) (akState_aim (by unfold isState; decide)) dX11_aim_44 (fun σ4 => ?_)
  refine JO_aload_n (pc := 45) dX11_aim_45 rfl ?_
  refine JO_getR (pc := 46) fl_X11_30 rfl fkX11_history dX11_aim_46 ?_
  refine JO_aload_n (pc := 49) dX11_aim_49 rfl ?_
  refine JO_getR (pc := 50) fl_X11_23 rfl fkX11_now dX11_aim_50 ?_
  refine JO_callVv (pc := 53) [.ref (G.1 + off 31)] lk_X11_188 rfl (ci := 3) rfl shX3 (w_X3_add G d 31 (by unfold isState; decide) σ4) rfl rfl (Nat.le_of_ble_eq_true rfl) dX11_aim_53 (fun σ5 => ?_)
  refine JO_iload_n (pc := 56) dX11_aim_56 rfl ?_
  exact JO_reti (pc := 57) rfl dX11_aim_57
set_option maxHeartbeats 4000000 in
set_option maxRecDepth 100000 in
theorem w_X11_aim (G : JG) (d : Nat) (x1 : Int32) (x2 : Int32) (σ : Mem) : JS G mX11_aim (d + 3) [.ref (G.1 + off 0), .int x1, .int x2] σ rI (X11_aim x1 x2 σ) := by
  refine JS_of 1 (by decide +kernel) (Nat.le_of_ble_eq_true rfl) (L := [some (.ref (G.1 + off 0)), some (.int x1), some (.int x2), none]) rfl ?_
  unfold X11_aim
  refine JO_aload_n (pc := 0) dX11_aim_0 rfl ?_
  refine JO_iload_n (pc := 1) dX11_aim_1 rfl ?_
  refine JO_callVi (pc := 2) [.int x1] lk_X11_125 rfl (ci := 11) rfl shX11 (w_X11_isPerson G (d + 2) x1 σ) rfl rfl (Nat.le_of_ble_eq_true rfl) dX11_aim_2 (fun r1 => ?_)
  refine JO_if_eq (pc := 5) (tgt := 22) dX11_aim_5 (by decide) ?_ ?_
  · refine JO_bipush (pc := 22) (a := (-2)) dX11_aim_22 (by decide) ?_
    exact JO_reti (pc := 24) rfl dX11_aim_24
  · refine JO_iload_n (pc := 8) dX11_aim_8 rfl ?_
    refine JO_iconst (pc := 9) (a := (-1)) dX11_aim_9 (by decide) ?_
    refine JO_icmp_eq (pc := 10) (tgt := 25) dX11_aim_10 (by decide) ?_ ?_
    · exact JO_sub (l_sub_some (l_sub_some (l_sub_some (l_sub_none (l_sub_nil))))) (w_X11_aim_25 G d x1 x2 r1.2)
    · refine JO_aload_n (pc := 13) dX11_aim_13 rfl ?_
      refine JO_iload_n (pc := 14) dX11_aim_14 rfl ?_
      refine JO_iload_n (pc := 15) dX11_aim_15 rfl ?_
      refine JO_callVi (pc := 16) [.int x1, .int x2] lk_X11_159 rfl (ci := 11) rfl shX11 (w_X11_isPair G (d + 1) x1 x2 r1.2) rfl rfl (Nat.le_of_ble_eq_true rfl) dX11_aim_16 (fun r2 => ?_)
      refine JO_if_ne (pc := 19) (tgt := 25) dX11_aim_19 (by decide) ?_ ?_
      · exact JO_sub (l_sub_some (l_sub_some (l_sub_some (l_sub_none (l_sub_nil))))) (w_X11_aim_25 G d x1 x2 r2.2)
      · refine JO_bipush (pc := 22) (a := (-2)) dX11_aim_22 (by decide) ?_
        exact JO_reti (pc := 24) rfl dX11_aim_24
set_option maxHeartbeats 4000000 in
set_option maxRecDepth 100000 in
theorem w_X11_stand (G : JG) (d : Nat) (x1 : Int32) (x2 : Int32) (σ : Mem) : JS G mX11_stand (d + 3) [.ref (G.1 + off 0), .int x1, .int x2] σ rI (X11_stand x1 x2 σ) := by
  refine JS_of 1 (by decide +kernel) (Nat.le_of_ble_eq_true rfl) (L := [some (.ref (G.1 + off 0)), some (.int x1), some (.int x2), none]) rfl ?_
  unfold X11_stand
  refine JO_aload_n (pc := 0) dX11_stand_0 rfl ?_
  refine JO_iload_n (pc := 1) dX11_stand_1 rfl ?_
  refine JO_callVi (pc := 2) [.int x1] lk_X11_125 rfl (ci := 11) rfl shX11 (w_X11_isPerson G (d + 2) x1 σ) rfl rfl (Nat.le_of_ble_eq_true rfl) dX11_stand_2 (fun r1 => ?_)
  refine JO_if_eq (pc := 5) (tgt := 16) dX11_stand_5 (by decide) ?_ ?_
  · refine JO_iconst (pc := 16) (a := (-1)) dX11_stand_16 (by decide) ?_
    exact JO_reti (pc := 17) rfl dX11_stand_17
  · refine JO_aload_n (pc := 8) dX11_stand_8 rfl ?_
    refine JO_iload_n (pc := 9) dX11_stand_9 rfl ?_
    refine JO_callVi (pc := 10) [.int x2] lk_X11_125 rfl (ci := 11) rfl shX11 (w_X11_isPerson G (d + 2) x2 r1.2) rfl rfl (Nat.le_of_ble_eq_true rfl) dX11_stand_10 (fun r2 => ?_)
    refine JO_if_ne (pc := 13) (tgt := 18) dX11_stand_13 (by decide) ?_ ?_
    · refine JO_aload_n (pc := 18) dX11_stand_18 rfl ?_
      refine JO_getR (pc := 19) fl_X11_23 rfl fkX11_now dX11_stand_19 ?_
      refine JO_getR (pc := 22) fl_X11_135 rfl (fkState_stand (by unfold isState; decide)) dX11_stand_22 ?_
      refine JO_iload_n (pc := 25) dX11_stand_25 rfl ?_
      refine JO_iald (pc := 26) (akState_stand (by unfold isState; decide)) dX11_stand_26 ?_
      refine JO_nm (fun v3 => ?_)
      refine JO_istore_n (pc := 27) (L' := [some (.ref (G.1 + off 0)), some (.int x1), some (.int x2), some (.int v3)]) dX11_stand_27 rfl rfl rfl ?_
      refine JO_aload_n (pc := 28) dX11_stand_28 rfl ?_
      refine JO_getR (pc := 29) fl_X11_23 rfl fkX11_now dX11_stand_29 ?_
      refine JO_getR (pc := 32) fl_X11_135 rfl (fkState_stand (by unfold isState; decide)) dX11_stand_32 ?_
      refine JO_iload_n (pc := 35) dX11_stand_35 rfl ?_
      refine JO_iload_n (pc := 36) dX11_stand_36 rfl ?_
      refine JO_iast (pc := 37) (akState_stand (by unfold isState; decide)) dX11_stand_37 (fun σ4 => ?_)
      refine JO_aload_n (pc := 38) dX11_stand_38 rfl ?_
      refine JO_getR (pc := 39) fl_X11_30 rfl fkX11_history dX11_stand_39 ?_
      refine JO_aload_n (pc := 42) dX11_stand_42 rfl ?_
      refine JO_getR (pc := 43) fl_X11_23 rfl fkX11_now dX11_stand_43 ?_
      refine JO_callVv (pc := 46) [.ref (G.1 + off 31)] lk_X11_188 rfl (ci := 3) rfl shX3 (w_X3_add G d 31 (by unfold isState; decide) σ4) rfl rfl (Nat.le_of_ble_eq_true rfl) dX11_stand_46 (fun σ5 => ?_)
      refine JO_iload_n (pc := 49) dX11_stand_49 rfl ?_
      exact JO_reti (pc := 50) rfl dX11_stand_50
    · refine JO_iconst (pc := 16) (a := (-1)) dX11_stand_16 (by decide) ?_
      exact JO_reti (pc := 17) rfl dX11_stand_17
set_option maxHeartbeats 4000000 in
set_option maxRecDepth 100000 in
theorem w_X11_hours_29 (G : JG) (d : Nat) : ∀ (n : Nat) (x1 : Int32) (x2 : Int32) (σ : Mem), JO G mX11_hours (d + 4) 29 [some (.ref (G.1 + off 0)), some (.int x1), some (.int x2)] [] σ rI (X11_hours_29 n x1 x2 σ) := by
  intro n
  induction n with
  | zero =>
    intro x1 x2 σ
    exact JO_none
  | succ n ih =>
    intro x1 x2 σ
    rw [X11_hours_29]
    refine JO_iload_n (pc := 29) dX11_hours_29 rfl ?_
    refine JO_iload_n (pc := 30) dX11_hours_30 rfl ?_
    refine JO_icmp_ge (pc := 31) (tgt := 56) dX11_hours_31 (by decide) ?_ ?_
    · refine JO_aload_n (pc := 56) dX11_hours_56 rfl ?_
      refine JO_getR (pc := 57) fl_X11_30 rfl fkX11_history dX11_hours_57 ?_
      refine JO_aload_n (pc := 60) dX11_hours_60 rfl ?_
      refine JO_getR (pc := 61) fl_X11_23 rfl fkX11_now dX11_hours_61 ?_
      refine JO_callVv (pc := 64) [.ref (G.1 + off 31)] lk_X11_188 rfl (ci := 3) rfl shX3 (w_X3_add G (d + 1) 31 (by unfold isState; decide) σ) rfl rfl (Nat.le_of_ble_eq_true rfl) dX11_hours_64 (fun σ2 => ?_)
      refine JO_aload_n (pc := 67) dX11_hours_67 rfl ?_
      refine JO_getR (pc := 68) fl_X11_23 rfl fkX11_now dX11_hours_68 ?_
      refine JO_getI (pc := 71) fl_X11_191 rfl (fkState_past (by unfold isState; decide)) dX11_hours_71 ?_
      exact JO_reti (pc := 74) rfl dX11_hours_74
    · refine JO_aload_n (pc := 34) dX11_hours_34 rfl ?_
      refine JO_getR (pc := 35) fl_X11_37 rfl fkX11_clock dX11_hours_35 ?_
      refine JO_aload_n (pc := 38) dX11_hours_38 rfl ?_
      refine JO_getT (pc := 39) fl_X11_83 rfl fkX11_told dX11_hours_39 (fun q3 hq3 => ?_)
      refine JO_aload_n (pc := 42) dX11_hours_42 rfl ?_
      refine JO_getR (pc := 43) fl_X11_23 rfl fkX11_now dX11_hours_43 ?_
      refine JO_callVi (pc := 46) [.ref (G.1 + off q3), .ref (G.1 + off 31)] lk_X11_194 rfl (ci := 0) rfl (shClock (by unfold isClock; decide)) (w_X0_pass G d 39 q3 31 (by unfold isClock; decide) hq3 (by unfold isState; decide) σ) rfl rfl (Nat.le_of_ble_eq_true rfl) dX11_hours_46 (fun r4 => ?_)
      refine JO_pop (pc := 49) dX11_hours_49 rfl ?_
      refine JO_inc (pc := 50) (b := 1) (L' := fun v5 => [some (.ref (G.1 + off 0)), some (.int x1), some (.int v5)]) dX11_hours_50 rfl rfl (by decide) rfl (fun _ => rfl) (fun v5 => ?_)
      refine JO_goto (pc := 53) (tgt := 29) dX11_hours_53 (by decide) ?_
      exact JO_sub (l_sub_some (l_sub_some (l_sub_some (l_sub_nil)))) (ih x1 v5 r4.2)
set_option maxHeartbeats 4000000 in
set_option maxRecDepth 100000 in
theorem w_X11_hours (G : JG) (d : Nat) (x1 : Int32) (σ : Mem) : JS G mX11_hours (d + 4) [.ref (G.1 + off 0), .int x1] σ rI (X11_hours x1 σ) := by
  refine JS_of 1 (by decide +kernel) (Nat.le_of_ble_eq_true rfl) (L := [some (.ref (G.1 + off 0)), some (.int x1), none]) rfl ?_
  unfold X11_hours
  refine JO_iload_n (pc := 0) dX11_hours_0 rfl ?_
  refine JO_if_lt (pc := 1) (tgt := 25) dX11_hours_1 (by decide) ?_ ?_
  · refine JO_iconst (pc := 25) (a := (-1)) dX11_hours_25 (by decide) ?_
    exact JO_reti (pc := 26) rfl dX11_hours_26
  · refine JO_iload_n (pc := 4) dX11_hours_4 rfl ?_
    refine JO_bipush (pc := 5) (a := 60) dX11_hours_5 (by decide) ?_
    refine JO_icmp_gt (pc := 7) (tgt := 25) dX11_hours_7 (by decide) ?_ ?_
    · refine JO_iconst (pc := 25) (a := (-1)) dX11_hours_25 (by decide) ?_
      exact JO_reti (pc := 26) rfl dX11_hours_26
    · refine JO_aload_n (pc := 10) dX11_hours_10 rfl ?_
      refine JO_getR (pc := 11) fl_X11_23 rfl fkX11_now dX11_hours_11 ?_
      refine JO_getI (pc := 14) fl_X11_191 rfl (fkState_past (by unfold isState; decide)) dX11_hours_14 ?_
      refine JO_iload_n (pc := 17) dX11_hours_17 rfl ?_
      refine JO_iadd (pc := 18) dX11_hours_18 ?_
      refine JO_sipush (pc := 19) (a := 2000) dX11_hours_19 (by decide) ?_
      refine JO_icmp_le (pc := 22) (tgt := 27) dX11_hours_22 (by decide) ?_ ?_
      · refine JO_iconst (pc := 27) (a := 0) dX11_hours_27 (by decide) ?_
        refine JO_nm (fun v1 => ?_)
        refine JO_istore_n (pc := 28) (L' := [some (.ref (G.1 + off 0)), some (.int x1), some (.int v1)]) dX11_hours_28 rfl rfl rfl ?_
        exact JO_sub (l_sub_some (l_sub_some (l_sub_some (l_sub_nil)))) (w_X11_hours_29 G d fu x1 v1 σ)
      · refine JO_iconst (pc := 25) (a := (-1)) dX11_hours_25 (by decide) ?_
        exact JO_reti (pc := 26) rfl dX11_hours_26
set_option maxHeartbeats 4000000 in
set_option maxRecDepth 100000 in
theorem w_X11_offset (G : JG) (d : Nat) (x1 : Int32) (x2 : Int32) (σ : Mem) : JS G mX11_offset (d + 3) [.ref (G.1 + off 0), .int x1, .int x2] σ rI (X11_offset x1 x2 σ) := by
  refine JS_of 3 (by decide +kernel) (Nat.le_of_ble_eq_true rfl) (L := [some (.ref (G.1 + off 0)), some (.int x1), some (.int x2), none, none, none]) rfl ?_
  unfold X11_offset
  refine JO_aload_n (pc := 0) dX11_offset_0 rfl ?_
  refine JO_iload_n (pc := 1) dX11_offset_1 rfl ?_
  refine JO_iload_n (pc := 2) dX11_offset_2 rfl ?_
  refine JO_callVi (pc := 3) [.int x1, .int x2] lk_X11_159 rfl (ci := 11) rfl shX11 (w_X11_isPair G (d + 1) x1 x2 σ) rfl rfl (Nat.le_of_ble_eq_true rfl) dX11_offset_3 (fun r1 => ?_)
  refine JO_if_ne (pc := 6) (tgt := 11) dX11_offset_6 (by decide) ?_ ?_
  · refine JO_iload_n (pc := 11) dX11_offset_11 rfl ?_
    refine JO_iload_n (pc := 12) dX11_offset_12 rfl ?_
    refine JO_callSi (pc := 13) [.int x1, .int x2] lk_X11_166 rfl (w_X11_cell G (d + 2) x1 x2 r1.2) rfl rfl (Nat.le_of_ble_eq_true rfl) dX11_offset_13 (fun r2 => ?_)
    refine JO_nm (fun v3 => ?_)
    refine JO_istore_n (pc := 16) (L' := [some (.ref (G.1 + off 0)), some (.int x1), some (.int x2), some (.int v3), none, none]) dX11_offset_16 rfl rfl rfl ?_
    refine JO_iload_n (pc := 17) dX11_offset_17 rfl ?_
    refine JO_iload_n (pc := 18) dX11_offset_18 rfl ?_
    refine JO_callSi (pc := 19) [.int x2, .int x1] lk_X11_166 rfl (w_X11_cell G (d + 2) x2 x1 r2.2) rfl rfl (Nat.le_of_ble_eq_true rfl) dX11_offset_19 (fun r4 => ?_)
    refine JO_nm (fun v5 => ?_)
    refine JO_istore (pc := 22) (L' := [some (.ref (G.1 + off 0)), some (.int x1), some (.int x2), some (.int v3), some (.int v5), none]) dX11_offset_22 rfl rfl rfl ?_
    refine JO_aload_n (pc := 24) dX11_offset_24 rfl ?_
    refine JO_getR (pc := 25) fl_X11_23 rfl fkX11_now dX11_offset_25 ?_
    refine JO_getR (pc := 28) fl_X11_163 rfl (fkState_debt (by unfold isState; decide)) dX11_offset_28 ?_
    refine JO_iload_n (pc := 31) dX11_offset_31 rfl ?_
    refine JO_iald (pc := 32) (akState_debt (by unfold isState; decide)) dX11_offset_32 ?_
    refine JO_aload_n (pc := 33) dX11_offset_33 rfl ?_
    refine JO_getR (pc := 34) fl_X11_23 rfl fkX11_now dX11_offset_34 ?_
    refine JO_getR (pc := 37) fl_X11_163 rfl (fkState_debt (by unfold isState; decide)) dX11_offset_37 ?_
    refine JO_iload (pc := 40) dX11_offset_40 rfl ?_
    refine JO_iald (pc := 42) (akState_debt (by unfold isState; decide)) dX11_offset_42 ?_
    refine JO_mmin (pc := 43) lm_X11_198 rfl (Nat.le_of_ble_eq_true rfl) dX11_offset_43 ?_
    refine JO_nm (fun v6 => ?_)
    refine JO_istore (pc := 46) (L' := [some (.ref (G.1 + off 0)), some (.int x1), some (.int x2), some (.int v3), some (.int v5), some (.int v6)]) dX11_offset_46 rfl rfl rfl ?_
    refine JO_iload (pc := 48) dX11_offset_48 rfl ?_
    refine JO_if_ne (pc := 50) (tgt := 55) dX11_offset_50 (by decide) ?_ ?_
    · refine JO_aload_n (pc := 55) dX11_offset_55 rfl ?_
      refine JO_getR (pc := 56) fl_X11_23 rfl fkX11_now dX11_offset_56 ?_
      refine JO_getR (pc := 59) fl_X11_163 rfl (fkState_debt (by unfold isState; decide)) dX11_offset_59 ?_
      refine JO_iload_n (pc := 62) dX11_offset_62 rfl ?_
      refine JO_dup2 (pc := 63) dX11_offset_63 rfl rfl ?_
      refine JO_iald (pc := 64) (akState_debt (by unfold isState; decide)) dX11_offset_64 ?_
      refine JO_iload (pc := 65) dX11_offset_65 rfl ?_
      refine JO_isub (pc := 67) dX11_offset_67 ?_
      refine JO_iast (pc := 68) (akState_debt (by unfold isState; decide)) dX11_offset_68 (fun σ7 => ?_)
      refine JO_aload_n (pc := 69) dX11_offset_69 rfl ?_
      refine JO_getR (pc := 70) fl_X11_23 rfl fkX11_now dX11_offset_70 ?_
      refine JO_getR (pc := 73) fl_X11_163 rfl (fkState_debt (by unfold isState; decide)) dX11_offset_73 ?_
      refine JO_iload (pc := 76) dX11_offset_76 rfl ?_
      refine JO_dup2 (pc := 78) dX11_offset_78 rfl rfl ?_
      refine JO_iald (pc := 79) (akState_debt (by unfold isState; decide)) dX11_offset_79 ?_
      refine JO_iload (pc := 80) dX11_offset_80 rfl ?_
      refine JO_isub (pc := 82) dX11_offset_82 ?_
      refine JO_iast (pc := 83) (akState_debt (by unfold isState; decide)) dX11_offset_83 (fun σ8 => ?_)
      refine JO_aload_n (pc := 84) dX11_offset_84 rfl ?_
      refine JO_getR (pc := 85) fl_X11_30 rfl fkX11_history dX11_offset_85 ?_
      refine JO_aload_n (pc := 88) dX11_offset_88 rfl ?_
      refine JO_getR (pc := 89) fl_X11_23 rfl fkX11_now dX11_offset_89 ?_
      refine JO_callVv (pc := 92) [.ref (G.1 + off 31)] lk_X11_188 rfl (ci := 3) rfl shX3 (w_X3_add G d 31 (by unfold isState; decide) σ8) rfl rfl (Nat.le_of_ble_eq_true rfl) dX11_offset_92 (fun σ9 => ?_)
      refine JO_iload (pc := 95) dX11_offset_95 rfl ?_
      exact JO_reti (pc := 97) rfl dX11_offset_97
    · refine JO_iconst (pc := 53) (a := (-1)) dX11_offset_53 (by decide) ?_
      exact JO_reti (pc := 54) rfl dX11_offset_54
  · refine JO_iconst (pc := 9) (a := (-1)) dX11_offset_9 (by decide) ?_
    exact JO_reti (pc := 10) rfl dX11_offset_10
set_option maxHeartbeats 4000000 in
set_option maxRecDepth 100000 in
theorem w_X11_clear (G : JG) (d : Nat) (σ : Mem) : JS G mX11_clear (d + 12) [.ref (G.1 + off 0)] σ rI (X11_clear σ) := by
  refine JS_of 0 (by decide +kernel) (Nat.le_of_ble_eq_true rfl) (L := [some (.ref (G.1 + off 0))]) rfl ?_
  unfold X11_clear
  refine JO_aload_n (pc := 0) dX11_clear_0 rfl ?_
  refine JO_getR (pc := 1) fl_X11_58 rfl fkX11_ringFinder dX11_clear_1 ?_
  refine JO_aload_n (pc := 4) dX11_clear_4 rfl ?_
  refine JO_getT (pc := 5) fl_X11_83 rfl fkX11_told dX11_clear_5 (fun q1 hq1 => ?_)
  refine JO_getI (pc := 8) fl_X11_116 rfl (fkTown_people hq1) dX11_clear_8 ?_
  refine JO_aload_n (pc := 11) dX11_clear_11 rfl ?_
  refine JO_getR (pc := 12) fl_X11_23 rfl fkX11_now dX11_clear_12 ?_
  refine JO_getR (pc := 15) fl_X11_163 rfl (fkState_debt (by unfold isState; decide)) dX11_clear_15 ?_
  refine JO_callVv (pc := 18) [.int (σ.1 q1 12), .ref (G.1 + off 36)] lk_X11_203 rfl (ci := 6) rfl shX6 (w_X6_find G d 36 36 (akState_debt (by unfold isState; decide)) (σ.1 q1 12) σ) rfl rfl (Nat.le_of_ble_eq_true rfl) dX11_clear_18 (fun σ2 => ?_)
  refine JO_aload_n (pc := 21) dX11_clear_21 rfl ?_
  refine JO_getR (pc := 22) fl_X11_58 rfl fkX11_ringFinder dX11_clear_22 ?_
  refine JO_getI (pc := 25) fl_X11_207 rfl fkX6_count dX11_clear_25 ?_
  refine JO_if_ne (pc := 28) (tgt := 33) dX11_clear_28 (by decide) ?_ ?_
  · refine JO_aload_n (pc := 33) dX11_clear_33 rfl ?_
    refine JO_getR (pc := 34) fl_X11_58 rfl fkX11_ringFinder dX11_clear_34 ?_
    refine JO_aload_n (pc := 37) dX11_clear_37 rfl ?_
    refine JO_getR (pc := 38) fl_X11_23 rfl fkX11_now dX11_clear_38 ?_
    refine JO_getR (pc := 41) fl_X11_163 rfl (fkState_debt (by unfold isState; decide)) dX11_clear_41 ?_
    refine JO_callVv (pc := 44) [.ref (G.1 + off 36)] lk_X11_210 rfl (ci := 6) rfl shX6 (w_X6_takeBestFrom G (d + 10) 36 36 (akState_debt (by unfold isState; decide)) σ2) rfl rfl (Nat.le_of_ble_eq_true rfl) dX11_clear_44 (fun σ3 => ?_)
    refine JO_aload_n (pc := 47) dX11_clear_47 rfl ?_
    refine JO_getR (pc := 48) fl_X11_30 rfl fkX11_history dX11_clear_48 ?_
    refine JO_aload_n (pc := 51) dX11_clear_51 rfl ?_
    refine JO_getR (pc := 52) fl_X11_23 rfl fkX11_now dX11_clear_52 ?_
    refine JO_callVv (pc := 55) [.ref (G.1 + off 31)] lk_X11_188 rfl (ci := 3) rfl shX3 (w_X3_add G (d + 9) 31 (by unfold isState; decide) σ3) rfl rfl (Nat.le_of_ble_eq_true rfl) dX11_clear_55 (fun σ4 => ?_)
    refine JO_aload_n (pc := 58) dX11_clear_58 rfl ?_
    refine JO_getR (pc := 59) fl_X11_58 rfl fkX11_ringFinder dX11_clear_59 ?_
    refine JO_getI (pc := 62) fl_X11_214 rfl fkX6_frees dX11_clear_62 ?_
    exact JO_reti (pc := 65) rfl dX11_clear_65
  · refine JO_iconst (pc := 31) (a := (-1)) dX11_clear_31 (by decide) ?_
    exact JO_reti (pc := 32) rfl dX11_clear_32
set_option maxHeartbeats 4000000 in
set_option maxRecDepth 100000 in
theorem w_X11_undo (G : JG) (d : Nat) (σ : Mem) : JS G mX11_undo (d + 3) [.ref (G.1 + off 0)] σ rI (X11_undo σ) := by
  refine JS_of 0 (by decide +kernel) (Nat.le_of_ble_eq_true rfl) (L := [some (.ref (G.1 + off 0))]) rfl ?_
  unfold X11_undo
  refine JO_aload_n (pc := 0) dX11_undo_0 rfl ?_
  refine JO_getR (pc := 1) fl_X11_30 rfl fkX11_history dX11_undo_1 ?_
  refine JO_aload_n (pc := 4) dX11_undo_4 rfl ?_
  refine JO_getR (pc := 5) fl_X11_23 rfl fkX11_now dX11_undo_5 ?_
  refine JO_callVi (pc := 8) [.ref (G.1 + off 31)] lk_X11_217 rfl (ci := 3) rfl shX3 (w_X3_goBack G d 31 (by unfold isState; decide) σ) rfl rfl (Nat.le_of_ble_eq_true rfl) dX11_undo_8 (fun r1 => ?_)
  exact JO_retz (pc := 11) rfl dX11_undo_11
set_option maxHeartbeats 4000000 in
set_option maxRecDepth 100000 in
theorem w_X11_redo (G : JG) (d : Nat) (σ : Mem) : JS G mX11_redo (d + 3) [.ref (G.1 + off 0)] σ rI (X11_redo σ) := by
  refine JS_of 0 (by decide +kernel) (Nat.le_of_ble_eq_true rfl) (L := [some (.ref (G.1 + off 0))]) rfl ?_
  unfold X11_redo
  refine JO_aload_n (pc := 0) dX11_redo_0 rfl ?_
  refine JO_getR (pc := 1) fl_X11_30 rfl fkX11_history dX11_redo_1 ?_
  refine JO_aload_n (pc := 4) dX11_redo_4 rfl ?_
  refine JO_getR (pc := 5) fl_X11_23 rfl fkX11_now dX11_redo_5 ?_
  refine JO_callVi (pc := 8) [.ref (G.1 + off 31)] lk_X11_221 rfl (ci := 3) rfl shX3 (w_X3_goForth G d 31 (by unfold isState; decide) σ) rfl rfl (Nat.le_of_ble_eq_true rfl) dX11_redo_8 (fun r1 => ?_)
  exact JO_retz (pc := 11) rfl dX11_redo_11
set_option maxHeartbeats 4000000 in
set_option maxRecDepth 100000 in
theorem w_X11_will (G : JG) (d : Nat) (x1 : Int32) (x2 : Int32) (x3 : Int32) (σ : Mem) : JS G mX11_will (d + 6) [.ref (G.1 + off 0), .int x1, .int x2, .int x3] σ rI (X11_will x1 x2 x3 σ) := by
  refine JS_of 0 (by decide +kernel) (Nat.le_of_ble_eq_true rfl) (L := [some (.ref (G.1 + off 0)), some (.int x1), some (.int x2), some (.int x3)]) rfl ?_
  unfold X11_will
  refine JO_aload_n (pc := 0) dX11_will_0 rfl ?_
  refine JO_iload_n (pc := 1) dX11_will_1 rfl ?_
  refine JO_iload_n (pc := 2) dX11_will_2 rfl ?_
  refine JO_callVi (pc := 3) [.int x1, .int x2] lk_X11_159 rfl (ci := 11) rfl shX11 (w_X11_isPair G (d + 4) x1 x2 σ) rfl rfl (Nat.le_of_ble_eq_true rfl) dX11_will_3 (fun r1 => ?_)
  refine JO_if_eq (pc := 6) (tgt := 20) dX11_will_6 (by decide) ?_ ?_
  · refine JO_iconst (pc := 20) (a := (-1)) dX11_will_20 (by decide) ?_
    exact JO_reti (pc := 21) rfl dX11_will_21
  · refine JO_iload_n (pc := 9) dX11_will_9 rfl ?_
    refine JO_if_lt (pc := 10) (tgt := 20) dX11_will_10 (by decide) ?_ ?_
    · refine JO_iconst (pc := 20) (a := (-1)) dX11_will_20 (by decide) ?_
      exact JO_reti (pc := 21) rfl dX11_will_21
    · refine JO_iload_n (pc := 13) dX11_will_13 rfl ?_
      refine JO_sipush (pc := 14) (a := 200) dX11_will_14 (by decide) ?_
      refine JO_icmp_le (pc := 17) (tgt := 22) dX11_will_17 (by decide) ?_ ?_
      · refine JO_aload_n (pc := 22) dX11_will_22 rfl ?_
        refine JO_getR (pc := 23) fl_X11_44 rfl fkX11_foresight dX11_will_23 ?_
        refine JO_aload_n (pc := 26) dX11_will_26 rfl ?_
        refine JO_getT (pc := 27) fl_X11_83 rfl fkX11_told dX11_will_27 (fun q2 hq2 => ?_)
        refine JO_aload_n (pc := 30) dX11_will_30 rfl ?_
        refine JO_getR (pc := 31) fl_X11_23 rfl fkX11_now dX11_will_31 ?_
        refine JO_iload_n (pc := 34) dX11_will_34 rfl ?_
        refine JO_iload_n (pc := 35) dX11_will_35 rfl ?_
        refine JO_callSi (pc := 36) [.int x1, .int x2] lk_X11_166 rfl (w_X11_cell G (d + 5) x1 x2 r1.2) rfl rfl (Nat.le_of_ble_eq_true rfl) dX11_will_36 (fun r3 => ?_)
        refine JO_iload_n (pc := 39) dX11_will_39 rfl ?_
        refine JO_callVi (pc := 40) [.ref (G.1 + off q2), .ref (G.1 + off 31), .int r3.1, .int x3] lk_X11_224 rfl (ci := 1) rfl shX1 (w_X1_owedBehind G d q2 31 hq2 (by unfold isState; decide) r3.1 x3 r3.2) rfl rfl (Nat.le_of_ble_eq_true rfl) dX11_will_40 (fun r4 => ?_)
        exact JO_reti (pc := 43) rfl dX11_will_43
      · refine JO_iconst (pc := 20) (a := (-1)) dX11_will_20 (by decide) ?_
        exact JO_reti (pc := 21) rfl dX11_will_21
set_option maxHeartbeats 4000000 in
set_option maxRecDepth 100000 in
theorem w_X11_when (G : JG) (d : Nat) (x1 : Int32) (x2 : Int32) (σ : Mem) : JS G mX11_when (d + 6) [.ref (G.1 + off 0), .int x1, .int x2] σ rI (X11_when x1 x2 σ) := by
  refine JS_of 0 (by decide +kernel) (Nat.le_of_ble_eq_true rfl) (L := [some (.ref (G.1 + off 0)), some (.int x1), some (.int x2)]) rfl ?_
  unfold X11_when
  refine JO_aload_n (pc := 0) dX11_when_0 rfl ?_
  refine JO_iload_n (pc := 1) dX11_when_1 rfl ?_
  refine JO_iload_n (pc := 2) dX11_when_2 rfl ?_
  refine JO_callVi (pc := 3) [.int x1, .int x2] lk_X11_159 rfl (ci := 11) rfl shX11 (w_X11_isPair G (d + 4) x1 x2 σ) rfl rfl (Nat.le_of_ble_eq_true rfl) dX11_when_3 (fun r1 => ?_)
  refine JO_if_ne (pc := 6) (tgt := 12) dX11_when_6 (by decide) ?_ ?_
  · refine JO_aload_n (pc := 12) dX11_when_12 rfl ?_
    refine JO_getR (pc := 13) fl_X11_44 rfl fkX11_foresight dX11_when_13 ?_
    refine JO_aload_n (pc := 16) dX11_when_16 rfl ?_
    refine JO_getT (pc := 17) fl_X11_83 rfl fkX11_told dX11_when_17 (fun q2 hq2 => ?_)
    refine JO_aload_n (pc := 20) dX11_when_20 rfl ?_
    refine JO_getR (pc := 21) fl_X11_23 rfl fkX11_now dX11_when_21 ?_
    refine JO_iload_n (pc := 24) dX11_when_24 rfl ?_
    refine JO_iload_n (pc := 25) dX11_when_25 rfl ?_
    refine JO_callSi (pc := 26) [.int x1, .int x2] lk_X11_166 rfl (w_X11_cell G (d + 5) x1 x2 r1.2) rfl rfl (Nat.le_of_ble_eq_true rfl) dX11_when_26 (fun r3 => ?_)
    refine JO_callVi (pc := 29) [.ref (G.1 + off q2), .ref (G.1 + off 31), .int r3.1] lk_X11_228 rfl (ci := 1) rfl shX1 (w_X1_hoursTillPaid G d q2 31 hq2 (by unfold isState; decide) r3.1 r3.2) rfl rfl (Nat.le_of_ble_eq_true rfl) dX11_when_29 (fun r4 => ?_)
    exact JO_reti (pc := 32) rfl dX11_when_32
  · refine JO_bipush (pc := 9) (a := (-2)) dX11_when_9 (by decide) ?_
    exact JO_reti (pc := 11) rfl dX11_when_11
set_option maxHeartbeats 4000000 in
set_option maxRecDepth 100000 in
theorem w_X11_isZeroOrOne (G : JG) (d : Nat) (x0 : Int32) (σ : Mem) : JS G mX11_isZeroOrOne d [.int x0] σ rI (X11_isZeroOrOne x0 σ) := by
  refine JS_of 0 (by decide +kernel) (Nat.le_of_ble_eq_true rfl) (L := [some (.int x0)]) rfl ?_
  unfold X11_isZeroOrOne
  refine JO_iload_n (pc := 0) dX11_isZeroOrOne_0 rfl ?_
  refine JO_if_eq (pc := 1) (tgt := 9) dX11_isZeroOrOne_1 (by decide) ?_ ?_
  · refine JO_iconst (pc := 9) (a := 1) dX11_isZeroOrOne_9 (by decide) ?_
    refine JO_goto (pc := 10) (tgt := 14) dX11_isZeroOrOne_10 (by decide) ?_
    exact JO_retzc (pc := 14) (by decide) rfl dX11_isZeroOrOne_14
  · refine JO_iload_n (pc := 4) dX11_isZeroOrOne_4 rfl ?_
    refine JO_iconst (pc := 5) (a := 1) dX11_isZeroOrOne_5 (by decide) ?_
    refine JO_icmp_ne (pc := 6) (tgt := 13) dX11_isZeroOrOne_6 (by decide) ?_ ?_
    · refine JO_iconst (pc := 13) (a := 0) dX11_isZeroOrOne_13 (by decide) ?_
      exact JO_retzc (pc := 14) (by decide) rfl dX11_isZeroOrOne_14
    · refine JO_iconst (pc := 9) (a := 1) dX11_isZeroOrOne_9 (by decide) ?_
      refine JO_goto (pc := 10) (tgt := 14) dX11_isZeroOrOne_10 (by decide) ?_
      exact JO_retzc (pc := 14) (by decide) rfl dX11_isZeroOrOne_14
set_option maxHeartbeats 4000000 in
set_option maxRecDepth 100000 in
theorem w_X11_throng (G : JG) (d : Nat) (x1 : Int32) (x2 : Int32) (x3 : Int32) (σ : Mem) : JS G mX11_throng (d + 5) [.ref (G.1 + off 0), .int x1, .int x2, .int x3] σ rI (X11_throng x1 x2 x3 σ) := by
  refine JS_of 0 (by decide +kernel) (Nat.le_of_ble_eq_true rfl) (L := [some (.ref (G.1 + off 0)), some (.int x1), some (.int x2), some (.int x3)]) rfl ?_
  unfold X11_throng
  refine JO_aload_n (pc := 0) dX11_throng_0 rfl ?_
  refine JO_iload_n (pc := 1) dX11_throng_1 rfl ?_
  refine JO_callVi (pc := 2) [.int x1] lk_X11_125 rfl (ci := 11) rfl shX11 (w_X11_isPerson G (d + 4) x1 σ) rfl rfl (Nat.le_of_ble_eq_true rfl) dX11_throng_2 (fun r1 => ?_)
  refine JO_if_eq (pc := 5) (tgt := 27) dX11_throng_5 (by decide) ?_ ?_
  · refine JO_bipush (pc := 27) (a := (-2)) dX11_throng_27 (by decide) ?_
    exact JO_reti (pc := 29) rfl dX11_throng_29
  · refine JO_iload_n (pc := 8) dX11_throng_8 rfl ?_
    refine JO_iconst (pc := 9) (a := 1) dX11_throng_9 (by decide) ?_
    refine JO_icmp_lt (pc := 10) (tgt := 27) dX11_throng_10 (by decide) ?_ ?_
    · refine JO_bipush (pc := 27) (a := (-2)) dX11_throng_27 (by decide) ?_
      exact JO_reti (pc := 29) rfl dX11_throng_29
    · refine JO_iload_n (pc := 13) dX11_throng_13 rfl ?_
      refine JO_sipush (pc := 14) (a := 200) dX11_throng_14 (by decide) ?_
      refine JO_icmp_gt (pc := 17) (tgt := 27) dX11_throng_17 (by decide) ?_ ?_
      · refine JO_bipush (pc := 27) (a := (-2)) dX11_throng_27 (by decide) ?_
        exact JO_reti (pc := 29) rfl dX11_throng_29
      · refine JO_iload_n (pc := 20) dX11_throng_20 rfl ?_
        refine JO_callSi (pc := 21) [.int x3] lk_X11_231 rfl (w_X11_isZeroOrOne G (d + 4) x3 r1.2) rfl rfl (Nat.le_of_ble_eq_true rfl) dX11_throng_21 (fun r2 => ?_)
        refine JO_if_ne (pc := 24) (tgt := 30) dX11_throng_24 (by decide) ?_ ?_
        · refine JO_aload_n (pc := 30) dX11_throng_30 rfl ?_
          refine JO_getR (pc := 31) fl_X11_44 rfl fkX11_foresight dX11_throng_31 ?_
          refine JO_aload_n (pc := 34) dX11_throng_34 rfl ?_
          refine JO_getT (pc := 35) fl_X11_83 rfl fkX11_told dX11_throng_35 (fun q3 hq3 => ?_)
          refine JO_aload_n (pc := 38) dX11_throng_38 rfl ?_
          refine JO_getR (pc := 39) fl_X11_23 rfl fkX11_now dX11_throng_39 ?_
          refine JO_iload_n (pc := 42) dX11_throng_42 rfl ?_
          refine JO_iload_n (pc := 43) dX11_throng_43 rfl ?_
          refine JO_callVv (pc := 44) [.ref (G.1 + off q3), .ref (G.1 + off 31), .int x1, .int x2] lk_X11_234 rfl (ci := 1) rfl shX1 (w_X1_findThrong G d q3 31 hq3 (by unfold isState; decide) x1 x2 r2.2) rfl rfl (Nat.le_of_ble_eq_true rfl) dX11_throng_44 (fun σ4 => ?_)
          refine JO_iload_n (pc := 47) dX11_throng_47 rfl ?_
          refine JO_if_ne (pc := 48) (tgt := 61) dX11_throng_48 (by decide) ?_ ?_
          · refine JO_aload_n (pc := 61) dX11_throng_61 rfl ?_
            refine JO_getR (pc := 62) fl_X11_44 rfl fkX11_foresight dX11_throng_62 ?_
            refine JO_getI (pc := 65) fl_X11_241 rfl fkX1_foundBy dX11_throng_65 ?_
            exact JO_reti (pc := 68) rfl dX11_throng_68
          · refine JO_aload_n (pc := 51) dX11_throng_51 rfl ?_
            refine JO_getR (pc := 52) fl_X11_44 rfl fkX11_foresight dX11_throng_52 ?_
            refine JO_getI (pc := 55) fl_X11_238 rfl fkX1_found dX11_throng_55 ?_
            refine JO_goto (pc := 58) (tgt := 68) dX11_throng_58 (by decide) ?_
            exact JO_reti (pc := 68) rfl dX11_throng_68
        · refine JO_bipush (pc := 27) (a := (-2)) dX11_throng_27 (by decide) ?_
          exact JO_reti (pc := 29) rfl dX11_throng_29
set_option maxHeartbeats 4000000 in
set_option maxRecDepth 100000 in
theorem w_X11_meeting (G : JG) (d : Nat) (x1 : Int32) (x2 : Int32) (x3 : Int32) (σ : Mem) : JS G mX11_meeting (d + 5) [.ref (G.1 + off 0), .int x1, .int x2, .int x3] σ rI (X11_meeting x1 x2 x3 σ) := by
  refine JS_of 0 (by decide +kernel) (Nat.le_of_ble_eq_true rfl) (L := [some (.ref (G.1 + off 0)), some (.int x1), some (.int x2), some (.int x3)]) rfl ?_
  unfold X11_meeting
  refine JO_aload_n (pc := 0) dX11_meeting_0 rfl ?_
  refine JO_iload_n (pc := 1) dX11_meeting_1 rfl ?_
  refine JO_iload_n (pc := 2) dX11_meeting_2 rfl ?_
  refine JO_callVi (pc := 3) [.int x1, .int x2] lk_X11_159 rfl (ci := 11) rfl shX11 (w_X11_isPair G (d + 3) x1 x2 σ) rfl rfl (Nat.le_of_ble_eq_true rfl) dX11_meeting_3 (fun r1 => ?_)
  refine JO_if_eq (pc := 6) (tgt := 21) dX11_meeting_6 (by decide) ?_ ?_
  · refine JO_bipush (pc := 21) (a := (-2)) dX11_meeting_21 (by decide) ?_
    exact JO_reti (pc := 23) rfl dX11_meeting_23
  · refine JO_iload_n (pc := 9) dX11_meeting_9 rfl ?_
    refine JO_iconst (pc := 10) (a := 1) dX11_meeting_10 (by decide) ?_
    refine JO_icmp_lt (pc := 11) (tgt := 21) dX11_meeting_11 (by decide) ?_ ?_
    · refine JO_bipush (pc := 21) (a := (-2)) dX11_meeting_21 (by decide) ?_
      exact JO_reti (pc := 23) rfl dX11_meeting_23
    · refine JO_iload_n (pc := 14) dX11_meeting_14 rfl ?_
      refine JO_sipush (pc := 15) (a := 200) dX11_meeting_15 (by decide) ?_
      refine JO_icmp_le (pc := 18) (tgt := 24) dX11_meeting_18 (by decide) ?_ ?_
      · refine JO_aload_n (pc := 24) dX11_meeting_24 rfl ?_
        refine JO_getR (pc := 25) fl_X11_44 rfl fkX11_foresight dX11_meeting_25 ?_
        refine JO_aload_n (pc := 28) dX11_meeting_28 rfl ?_
        refine JO_getT (pc := 29) fl_X11_83 rfl fkX11_told dX11_meeting_29 (fun q2 hq2 => ?_)
        refine JO_aload_n (pc := 32) dX11_meeting_32 rfl ?_
        refine JO_getR (pc := 33) fl_X11_23 rfl fkX11_now dX11_meeting_33 ?_
        refine JO_iload_n (pc := 36) dX11_meeting_36 rfl ?_
        refine JO_iload_n (pc := 37) dX11_meeting_37 rfl ?_
        refine JO_iload_n (pc := 38) dX11_meeting_38 rfl ?_
        refine JO_callVi (pc := 39) [.ref (G.1 + off q2), .ref (G.1 + off 31), .int x1, .int x2, .int x3] lk_X11_244 rfl (ci := 1) rfl shX1 (w_X1_hourOfMeeting G d q2 31 hq2 (by unfold isState; decide) x1 x2 x3 r1.2) rfl rfl (Nat.le_of_ble_eq_true rfl) dX11_meeting_39 (fun r3 => ?_)
        exact JO_reti (pc := 42) rfl dX11_meeting_42
      · refine JO_bipush (pc := 21) (a := (-2)) dX11_meeting_21 (by decide) ?_
        exact JO_reti (pc := 23) rfl dX11_meeting_23
set_option maxHeartbeats 4000000 in
set_option maxRecDepth 100000 in
theorem w_X11_help (G : JG) (d : Nat) (x1 : Int32) (x2 : Int32) (x3 : Int32) (σ : Mem) : JS G mX11_help (d + 6) [.ref (G.1 + off 0), .int x1, .int x2, .int x3] σ rI (X11_help x1 x2 x3 σ) := by
  refine JS_of 0 (by decide +kernel) (Nat.le_of_ble_eq_true rfl) (L := [some (.ref (G.1 + off 0)), some (.int x1), some (.int x2), some (.int x3)]) rfl ?_
  unfold X11_help
  refine JO_aload_n (pc := 0) dX11_help_0 rfl ?_
  refine JO_iload_n (pc := 1) dX11_help_1 rfl ?_
  refine JO_iload_n (pc := 2) dX11_help_2 rfl ?_
  refine JO_callVi (pc := 3) [.int x1, .int x2] lk_X11_159 rfl (ci := 11) rfl shX11 (w_X11_isPair G (d + 4) x1 x2 σ) rfl rfl (Nat.le_of_ble_eq_true rfl) dX11_help_3 (fun r1 => ?_)
  refine JO_if_eq (pc := 6) (tgt := 16) dX11_help_6 (by decide) ?_ ?_
  · refine JO_bipush (pc := 16) (a := (-2)) dX11_help_16 (by decide) ?_
    exact JO_reti (pc := 18) rfl dX11_help_18
  · refine JO_iload_n (pc := 9) dX11_help_9 rfl ?_
    refine JO_callSi (pc := 10) [.int x3] lk_X11_231 rfl (w_X11_isZeroOrOne G (d + 5) x3 r1.2) rfl rfl (Nat.le_of_ble_eq_true rfl) dX11_help_10 (fun r2 => ?_)
    refine JO_if_ne (pc := 13) (tgt := 19) dX11_help_13 (by decide) ?_ ?_
    · refine JO_aload_n (pc := 19) dX11_help_19 rfl ?_
      refine JO_getR (pc := 20) fl_X11_44 rfl fkX11_foresight dX11_help_20 ?_
      refine JO_aload_n (pc := 23) dX11_help_23 rfl ?_
      refine JO_getT (pc := 24) fl_X11_83 rfl fkX11_told dX11_help_24 (fun q3 hq3 => ?_)
      refine JO_aload_n (pc := 27) dX11_help_27 rfl ?_
      refine JO_getR (pc := 28) fl_X11_23 rfl fkX11_now dX11_help_28 ?_
      refine JO_iload_n (pc := 31) dX11_help_31 rfl ?_
      refine JO_iload_n (pc := 32) dX11_help_32 rfl ?_
      refine JO_callVv (pc := 33) [.ref (G.1 + off q3), .ref (G.1 + off 31), .int x1, .int x2] lk_X11_248 rfl (ci := 1) rfl shX1 (w_X1_findHelper G d q3 31 hq3 (by unfold isState; decide) x1 x2 r2.2) rfl rfl (Nat.le_of_ble_eq_true rfl) dX11_help_33 (fun σ4 => ?_)
      refine JO_iload_n (pc := 36) dX11_help_36 rfl ?_
      refine JO_if_ne (pc := 37) (tgt := 50) dX11_help_37 (by decide) ?_ ?_
      · refine JO_aload_n (pc := 50) dX11_help_50 rfl ?_
        refine JO_getR (pc := 51) fl_X11_44 rfl fkX11_foresight dX11_help_51 ?_
        refine JO_getI (pc := 54) fl_X11_241 rfl fkX1_foundBy dX11_help_54 ?_
        exact JO_reti (pc := 57) rfl dX11_help_57
      · refine JO_aload_n (pc := 40) dX11_help_40 rfl ?_
        refine JO_getR (pc := 41) fl_X11_44 rfl fkX11_foresight dX11_help_41 ?_
        refine JO_getI (pc := 44) fl_X11_238 rfl fkX1_found dX11_help_44 ?_
        refine JO_goto (pc := 47) (tgt := 57) dX11_help_47 (by decide) ?_
        exact JO_reti (pc := 57) rfl dX11_help_57
    · refine JO_bipush (pc := 16) (a := (-2)) dX11_help_16 (by decide) ?_
      exact JO_reti (pc := 18) rfl dX11_help_18
set_option maxHeartbeats 4000000 in
set_option maxRecDepth 100000 in
theorem w_X11_layDown (G : JG) (d : Nat) (a : Nat) (al : Nat) (ha : akind SH a = some (0, al)) (x2 : Int32) (σ : Mem) : JS G mX11_layDown (d + 1) [.ref (G.1 + off 0), .ref (G.1 + off a), .int x2] σ rV (X11_layDown a al x2 σ) := by
  refine JS_of 0 (by decide +kernel) (Nat.le_of_ble_eq_true rfl) (L := [some (.ref (G.1 + off 0)), some (.ref (G.1 + off a)), some (.int x2)]) rfl ?_
  unfold X11_layDown
  refine JO_aload_n (pc := 0) dX11_layDown_0 rfl ?_
  refine JO_iload_n (pc := 1) dX11_layDown_1 rfl ?_
  refine JO_aload_n (pc := 2) dX11_layDown_2 rfl ?_
  refine JO_getR (pc := 3) fl_X11_77 rfl fkX11_lying dX11_layDown_3 ?_
  refine JO_alen (pc := 6) (a := 6) akX11_lying (by decide) (by decide) dX11_layDown_6 ?_
  refine JO_mmin (pc := 7) lm_X11_198 rfl (Nat.le_of_ble_eq_true rfl) dX11_layDown_7 ?_
  refine JO_putI (pc := 10) fl_X11_91 rfl fkX11_lyingCount dX11_layDown_10 (fun σ1 => ?_)
  refine JO_aload_n (pc := 13) dX11_layDown_13 rfl ?_
  refine JO_iconst (pc := 14) (a := 0) dX11_layDown_14 (by decide) ?_
  refine JO_aload_n (pc := 15) dX11_layDown_15 rfl ?_
  refine JO_getR (pc := 16) fl_X11_77 rfl fkX11_lying dX11_layDown_16 ?_
  refine JO_iconst (pc := 19) (a := 0) dX11_layDown_19 (by decide) ?_
  refine JO_aload_n (pc := 20) dX11_layDown_20 rfl ?_
  refine JO_getI (pc := 21) fl_X11_91 rfl fkX11_lyingCount dX11_layDown_21 ?_
  refine JO_copy (pc := 24) lc_X11_336 rfl ha akX11_lying (Nat.le_of_ble_eq_true rfl) dX11_layDown_24 (fun σ2 => ?_)
  exact JO_retv (pc := 27) rfl dX11_layDown_27
set_option maxHeartbeats 4000000 in
set_option maxRecDepth 100000 in
theorem w_X11_plan (G : JG) (d : Nat) (x1 : Int32) (σ : Mem) : JS G mX11_plan (d + 15) [.ref (G.1 + off 0), .int x1] σ rI (X11_plan x1 σ) := by
  refine JS_of 1 (by decide +kernel) (Nat.le_of_ble_eq_true rfl) (L := [some (.ref (G.1 + off 0)), some (.int x1), none]) rfl ?_
  unfold X11_plan
  refine JO_aload_n (pc := 0) dX11_plan_0 rfl ?_
  refine JO_iconst (pc := 1) (a := 0) dX11_plan_1 (by decide) ?_
  refine JO_putI (pc := 2) fl_X11_91 rfl fkX11_lyingCount dX11_plan_2 (fun σ1 => ?_)
  refine JO_aload_n (pc := 5) dX11_plan_5 rfl ?_
  refine JO_iload_n (pc := 6) dX11_plan_6 rfl ?_
  refine JO_callVi (pc := 7) [.int x1] lk_X11_125 rfl (ci := 11) rfl shX11 (w_X11_isPerson G (d + 14) x1 σ1) rfl rfl (Nat.le_of_ble_eq_true rfl) dX11_plan_7 (fun r2 => ?_)
  refine JO_if_ne (pc := 10) (tgt := 15) dX11_plan_10 (by decide) ?_ ?_
  · refine JO_aload_n (pc := 15) dX11_plan_15 rfl ?_
    refine JO_getR (pc := 16) fl_X11_51 rfl fkX11_planner dX11_plan_16 ?_
    refine JO_aload_n (pc := 19) dX11_plan_19 rfl ?_
    refine JO_getT (pc := 20) fl_X11_83 rfl fkX11_told dX11_plan_20 (fun q3 hq3 => ?_)
    refine JO_aload_n (pc := 23) dX11_plan_23 rfl ?_
    refine JO_getR (pc := 24) fl_X11_23 rfl fkX11_now dX11_plan_24 ?_
    refine JO_iload_n (pc := 27) dX11_plan_27 rfl ?_
    refine JO_callVi (pc := 28) [.ref (G.1 + off q3), .ref (G.1 + off 31), .int x1] lk_X11_251 rfl (ci := 4) rfl shX4 (w_X4_hoursOfBest G d q3 31 hq3 (by unfold isState; decide) x1 r2.2) rfl rfl (Nat.le_of_ble_eq_true rfl) dX11_plan_28 (fun r4 => ?_)
    refine JO_nm (fun v5 => ?_)
    refine JO_istore_n (pc := 31) (L' := [some (.ref (G.1 + off 0)), some (.int x1), some (.int v5)]) dX11_plan_31 rfl rfl rfl ?_
    refine JO_iload_n (pc := 32) dX11_plan_32 rfl ?_
    refine JO_iconst (pc := 33) (a := (-1)) dX11_plan_33 (by decide) ?_
    refine JO_icmp_eq (pc := 34) (tgt := 55) dX11_plan_34 (by decide) ?_ ?_
    · refine JO_iload_n (pc := 55) dX11_plan_55 rfl ?_
      exact JO_reti (pc := 56) rfl dX11_plan_56
    · refine JO_aload_n (pc := 37) dX11_plan_37 rfl ?_
      refine JO_aload_n (pc := 38) dX11_plan_38 rfl ?_
      refine JO_getR (pc := 39) fl_X11_51 rfl fkX11_planner dX11_plan_39 ?_
      refine JO_getR (pc := 42) fl_X11_254 rfl fkX4_best dX11_plan_42 ?_
      refine JO_aload_n (pc := 45) dX11_plan_45 rfl ?_
      refine JO_getR (pc := 46) fl_X11_51 rfl fkX11_planner dX11_plan_46 ?_
      refine JO_getI (pc := 49) fl_X11_257 rfl fkX4_creditors dX11_plan_49 ?_
      refine JO_callVv (pc := 52) [.ref (G.1 + off 68), .int (r4.2.1 61 6)] lk_X11_260 rfl (ci := 11) rfl shX11 (w_X11_layDown G (d + 13) 68 6 akX4_best (r4.2.1 61 6) r4.2) rfl rfl (Nat.le_of_ble_eq_true rfl) dX11_plan_52 (fun σ6 => ?_)
      refine JO_iload_n (pc := 55) dX11_plan_55 rfl ?_
      exact JO_reti (pc := 56) rfl dX11_plan_56
  · refine JO_iconst (pc := 13) (a := (-1)) dX11_plan_13 (by decide) ?_
    exact JO_reti (pc := 14) rfl dX11_plan_14
set_option maxHeartbeats 4000000 in
set_option maxRecDepth 100000 in
theorem w_X11_rings (G : JG) (d : Nat) (σ : Mem) : JS G mX11_rings (d + 12) [.ref (G.1 + off 0)] σ rI (X11_rings σ) := by
  refine JS_of 0 (by decide +kernel) (Nat.le_of_ble_eq_true rfl) (L := [some (.ref (G.1 + off 0))]) rfl ?_
  unfold X11_rings
  refine JO_aload_n (pc := 0) dX11_rings_0 rfl ?_
  refine JO_getR (pc := 1) fl_X11_58 rfl fkX11_ringFinder dX11_rings_1 ?_
  refine JO_aload_n (pc := 4) dX11_rings_4 rfl ?_
  refine JO_getT (pc := 5) fl_X11_83 rfl fkX11_told dX11_rings_5 (fun q1 hq1 => ?_)
  refine JO_getI (pc := 8) fl_X11_116 rfl (fkTown_people hq1) dX11_rings_8 ?_
  refine JO_aload_n (pc := 11) dX11_rings_11 rfl ?_
  refine JO_getR (pc := 12) fl_X11_23 rfl fkX11_now dX11_rings_12 ?_
  refine JO_getR (pc := 15) fl_X11_163 rfl (fkState_debt (by unfold isState; decide)) dX11_rings_15 ?_
  refine JO_callVv (pc := 18) [.int (σ.1 q1 12), .ref (G.1 + off 36)] lk_X11_203 rfl (ci := 6) rfl shX6 (w_X6_find G d 36 36 (akState_debt (by unfold isState; decide)) (σ.1 q1 12) σ) rfl rfl (Nat.le_of_ble_eq_true rfl) dX11_rings_18 (fun σ2 => ?_)
  refine JO_aload_n (pc := 21) dX11_rings_21 rfl ?_
  refine JO_getR (pc := 22) fl_X11_58 rfl fkX11_ringFinder dX11_rings_22 ?_
  refine JO_getI (pc := 25) fl_X11_207 rfl fkX6_count dX11_rings_25 ?_
  exact JO_reti (pc := 28) rfl dX11_rings_28
set_option maxHeartbeats 4000000 in
set_option maxRecDepth 100000 in
theorem w_X11_ring (G : JG) (d : Nat) (σ : Mem) : JS G mX11_ring (d + 12) [.ref (G.1 + off 0)] σ rI (X11_ring σ) := by
  refine JS_of 0 (by decide +kernel) (Nat.le_of_ble_eq_true rfl) (L := [some (.ref (G.1 + off 0))]) rfl ?_
  unfold X11_ring
  refine JO_aload_n (pc := 0) dX11_ring_0 rfl ?_
  refine JO_getR (pc := 1) fl_X11_58 rfl fkX11_ringFinder dX11_ring_1 ?_
  refine JO_aload_n (pc := 4) dX11_ring_4 rfl ?_
  refine JO_getT (pc := 5) fl_X11_83 rfl fkX11_told dX11_ring_5 (fun q1 hq1 => ?_)
  refine JO_getI (pc := 8) fl_X11_116 rfl (fkTown_people hq1) dX11_ring_8 ?_
  refine JO_aload_n (pc := 11) dX11_ring_11 rfl ?_
  refine JO_getR (pc := 12) fl_X11_23 rfl fkX11_now dX11_ring_12 ?_
  refine JO_getR (pc := 15) fl_X11_163 rfl (fkState_debt (by unfold isState; decide)) dX11_ring_15 ?_
  refine JO_callVv (pc := 18) [.int (σ.1 q1 12), .ref (G.1 + off 36)] lk_X11_203 rfl (ci := 6) rfl shX6 (w_X6_find G d 36 36 (akState_debt (by unfold isState; decide)) (σ.1 q1 12) σ) rfl rfl (Nat.le_of_ble_eq_true rfl) dX11_ring_18 (fun σ2 => ?_)
  refine JO_aload_n (pc := 21) dX11_ring_21 rfl ?_
  refine JO_aload_n (pc := 22) dX11_ring_22 rfl ?_
  refine JO_getR (pc := 23) fl_X11_58 rfl fkX11_ringFinder dX11_ring_23 ?_
  refine JO_getR (pc := 26) fl_X11_264 rfl fkX6_best dX11_ring_26 ?_
  refine JO_aload_n (pc := 29) dX11_ring_29 rfl ?_
  refine JO_getR (pc := 30) fl_X11_58 rfl fkX11_ringFinder dX11_ring_30 ?_
  refine JO_getI (pc := 33) fl_X11_265 rfl fkX6_bestLength dX11_ring_33 ?_
  refine JO_callVv (pc := 36) [.ref (G.1 + off 113), .int (σ2.1 111 3)] lk_X11_260 rfl (ci := 11) rfl shX11 (w_X11_layDown G (d + 10) 113 6 akX6_best (σ2.1 111 3) σ2) rfl rfl (Nat.le_of_ble_eq_true rfl) dX11_ring_36 (fun σ3 => ?_)
  refine JO_aload_n (pc := 39) dX11_ring_39 rfl ?_
  refine JO_getR (pc := 40) fl_X11_58 rfl fkX11_ringFinder dX11_ring_40 ?_
  refine JO_getI (pc := 43) fl_X11_214 rfl fkX6_frees dX11_ring_43 ?_
  exact JO_reti (pc := 46) rfl dX11_ring_46
set_option maxHeartbeats 4000000 in
set_option maxRecDepth 100000 in
theorem w_X11_hide (G : JG) (d : Nat) (x1 : Int32) (x2 : Int32) (x3 : Int32) (σ : Mem) : JS G mX11_hide (d + 6) [.ref (G.1 + off 0), .int x1, .int x2, .int x3] σ rI (X11_hide x1 x2 x3 σ) := by
  refine JS_of 0 (by decide +kernel) (Nat.le_of_ble_eq_true rfl) (L := [some (.ref (G.1 + off 0)), some (.int x1), some (.int x2), some (.int x3)]) rfl ?_
  unfold X11_hide
  refine JO_aload_n (pc := 0) dX11_hide_0 rfl ?_
  refine JO_iload_n (pc := 1) dX11_hide_1 rfl ?_
  refine JO_callVi (pc := 2) [.int x1] lk_X11_125 rfl (ci := 11) rfl shX11 (w_X11_isPerson G (d + 5) x1 σ) rfl rfl (Nat.le_of_ble_eq_true rfl) dX11_hide_2 (fun r1 => ?_)
  refine JO_if_eq (pc := 5) (tgt := 26) dX11_hide_5 (by decide) ?_ ?_
  · refine JO_bipush (pc := 26) (a := (-2)) dX11_hide_26 (by decide) ?_
    exact JO_reti (pc := 28) rfl dX11_hide_28
  · refine JO_iload_n (pc := 8) dX11_hide_8 rfl ?_
    refine JO_iconst (pc := 9) (a := 1) dX11_hide_9 (by decide) ?_
    refine JO_icmp_lt (pc := 10) (tgt := 26) dX11_hide_10 (by decide) ?_ ?_
    · refine JO_bipush (pc := 26) (a := (-2)) dX11_hide_26 (by decide) ?_
      exact JO_reti (pc := 28) rfl dX11_hide_28
    · refine JO_iload_n (pc := 13) dX11_hide_13 rfl ?_
      refine JO_bipush (pc := 14) (a := 60) dX11_hide_14 (by decide) ?_
      refine JO_icmp_gt (pc := 16) (tgt := 26) dX11_hide_16 (by decide) ?_ ?_
      · refine JO_bipush (pc := 26) (a := (-2)) dX11_hide_26 (by decide) ?_
        exact JO_reti (pc := 28) rfl dX11_hide_28
      · refine JO_iload_n (pc := 19) dX11_hide_19 rfl ?_
        refine JO_callSi (pc := 20) [.int x3] lk_X11_231 rfl (w_X11_isZeroOrOne G (d + 5) x3 r1.2) rfl rfl (Nat.le_of_ble_eq_true rfl) dX11_hide_20 (fun r2 => ?_)
        refine JO_if_ne (pc := 23) (tgt := 29) dX11_hide_23 (by decide) ?_ ?_
        · refine JO_aload_n (pc := 29) dX11_hide_29 rfl ?_
          refine JO_getR (pc := 30) fl_X11_44 rfl fkX11_foresight dX11_hide_30 ?_
          refine JO_aload_n (pc := 33) dX11_hide_33 rfl ?_
          refine JO_getT (pc := 34) fl_X11_83 rfl fkX11_told dX11_hide_34 (fun q3 hq3 => ?_)
          refine JO_aload_n (pc := 37) dX11_hide_37 rfl ?_
          refine JO_getR (pc := 38) fl_X11_23 rfl fkX11_now dX11_hide_38 ?_
          refine JO_iload_n (pc := 41) dX11_hide_41 rfl ?_
          refine JO_iload_n (pc := 42) dX11_hide_42 rfl ?_
          refine JO_callVv (pc := 43) [.ref (G.1 + off q3), .ref (G.1 + off 31), .int x1, .int x2] lk_X11_268 rfl (ci := 1) rfl shX1 (w_X1_findHiding G d q3 31 hq3 (by unfold isState; decide) x1 x2 r2.2) rfl rfl (Nat.le_of_ble_eq_true rfl) dX11_hide_43 (fun σ4 => ?_)
          refine JO_iload_n (pc := 46) dX11_hide_46 rfl ?_
          refine JO_if_ne (pc := 47) (tgt := 60) dX11_hide_47 (by decide) ?_ ?_
          · refine JO_aload_n (pc := 60) dX11_hide_60 rfl ?_
            refine JO_getR (pc := 61) fl_X11_44 rfl fkX11_foresight dX11_hide_61 ?_
            refine JO_getI (pc := 64) fl_X11_241 rfl fkX1_foundBy dX11_hide_64 ?_
            exact JO_reti (pc := 67) rfl dX11_hide_67
          · refine JO_aload_n (pc := 50) dX11_hide_50 rfl ?_
            refine JO_getR (pc := 51) fl_X11_44 rfl fkX11_foresight dX11_hide_51 ?_
            refine JO_getI (pc := 54) fl_X11_238 rfl fkX1_found dX11_hide_54 ?_
            refine JO_goto (pc := 57) (tgt := 67) dX11_hide_57 (by decide) ?_
            exact JO_reti (pc := 67) rfl dX11_hide_67
        · refine JO_bipush (pc := 26) (a := (-2)) dX11_hide_26 (by decide) ?_
          exact JO_reti (pc := 28) rfl dX11_hide_28
set_option maxHeartbeats 4000000 in
set_option maxRecDepth 100000 in
theorem w_X11_word (G : JG) (d : Nat) (x1 : Int32) (x2 : Int32) (x3 : Int32) (σ : Mem) : JS G mX11_word (d + 5) [.ref (G.1 + off 0), .int x1, .int x2, .int x3] σ rI (X11_word x1 x2 x3 σ) := by
  refine JS_of 1 (by decide +kernel) (Nat.le_of_ble_eq_true rfl) (L := [some (.ref (G.1 + off 0)), some (.int x1), some (.int x2), some (.int x3), none]) rfl ?_
  unfold X11_word
  refine JO_aload_n (pc := 0) dX11_word_0 rfl ?_
  refine JO_iconst (pc := 1) (a := 0) dX11_word_1 (by decide) ?_
  refine JO_putI (pc := 2) fl_X11_91 rfl fkX11_lyingCount dX11_word_2 (fun σ1 => ?_)
  refine JO_aload_n (pc := 5) dX11_word_5 rfl ?_
  refine JO_iload_n (pc := 6) dX11_word_6 rfl ?_
  refine JO_iload_n (pc := 7) dX11_word_7 rfl ?_
  refine JO_callVi (pc := 8) [.int x1, .int x2] lk_X11_159 rfl (ci := 11) rfl shX11 (w_X11_isPair G (d + 3) x1 x2 σ1) rfl rfl (Nat.le_of_ble_eq_true rfl) dX11_word_8 (fun r2 => ?_)
  refine JO_if_eq (pc := 11) (tgt := 25) dX11_word_11 (by decide) ?_ ?_
  · refine JO_iconst (pc := 25) (a := (-1)) dX11_word_25 (by decide) ?_
    exact JO_reti (pc := 26) rfl dX11_word_26
  · refine JO_iload_n (pc := 14) dX11_word_14 rfl ?_
    refine JO_iconst (pc := 15) (a := 1) dX11_word_15 (by decide) ?_
    refine JO_icmp_lt (pc := 16) (tgt := 25) dX11_word_16 (by decide) ?_ ?_
    · refine JO_iconst (pc := 25) (a := (-1)) dX11_word_25 (by decide) ?_
      exact JO_reti (pc := 26) rfl dX11_word_26
    · refine JO_iload_n (pc := 19) dX11_word_19 rfl ?_
      refine JO_bipush (pc := 20) (a := 60) dX11_word_20 (by decide) ?_
      refine JO_icmp_le (pc := 22) (tgt := 27) dX11_word_22 (by decide) ?_ ?_
      · refine JO_aload_n (pc := 27) dX11_word_27 rfl ?_
        refine JO_getR (pc := 28) fl_X11_44 rfl fkX11_foresight dX11_word_28 ?_
        refine JO_aload_n (pc := 31) dX11_word_31 rfl ?_
        refine JO_getT (pc := 32) fl_X11_83 rfl fkX11_told dX11_word_32 (fun q3 hq3 => ?_)
        refine JO_aload_n (pc := 35) dX11_word_35 rfl ?_
        refine JO_getR (pc := 36) fl_X11_23 rfl fkX11_now dX11_word_36 ?_
        refine JO_iload_n (pc := 39) dX11_word_39 rfl ?_
        refine JO_iload_n (pc := 40) dX11_word_40 rfl ?_
        refine JO_callSi (pc := 41) [.int x1, .int x2] lk_X11_166 rfl (w_X11_cell G (d + 4) x1 x2 r2.2) rfl rfl (Nat.le_of_ble_eq_true rfl) dX11_word_41 (fun r4 => ?_)
        refine JO_iload_n (pc := 44) dX11_word_44 rfl ?_
        refine JO_callVi (pc := 45) [.ref (G.1 + off q3), .ref (G.1 + off 31), .int r4.1, .int x3] lk_X11_271 rfl (ci := 1) rfl shX1 (w_X1_countWords G d q3 31 hq3 (by unfold isState; decide) r4.1 x3 r4.2) rfl rfl (Nat.le_of_ble_eq_true rfl) dX11_word_45 (fun r5 => ?_)
        refine JO_nm (fun v6 => ?_)
        refine JO_istore (pc := 48) (L' := [some (.ref (G.1 + off 0)), some (.int x1), some (.int x2), some (.int x3), some (.int v6)]) dX11_word_48 rfl rfl rfl ?_
        refine JO_iload (pc := 50) dX11_word_50 rfl ?_
        refine JO_if_le (pc := 52) (tgt := 86) dX11_word_52 (by decide) ?_ ?_
        · refine JO_iload (pc := 86) dX11_word_86 rfl ?_
          exact JO_reti (pc := 88) rfl dX11_word_88
        · refine JO_aload_n (pc := 55) dX11_word_55 rfl ?_
          refine JO_getR (pc := 56) fl_X11_77 rfl fkX11_lying dX11_word_56 ?_
          refine JO_iconst (pc := 59) (a := 0) dX11_word_59 (by decide) ?_
          refine JO_aload_n (pc := 60) dX11_word_60 rfl ?_
          refine JO_getR (pc := 61) fl_X11_44 rfl fkX11_foresight dX11_word_61 ?_
          refine JO_getI (pc := 64) fl_X11_238 rfl fkX1_found dX11_word_64 ?_
          refine JO_iastc (pc := 67) (k := 0) akX11_lying (by decide) (by decide) dX11_word_67 (fun σ7 => ?_)
          refine JO_aload_n (pc := 68) dX11_word_68 rfl ?_
          refine JO_getR (pc := 69) fl_X11_77 rfl fkX11_lying dX11_word_69 ?_
          refine JO_iconst (pc := 72) (a := 1) dX11_word_72 (by decide) ?_
          refine JO_aload_n (pc := 73) dX11_word_73 rfl ?_
          refine JO_getR (pc := 74) fl_X11_44 rfl fkX11_foresight dX11_word_74 ?_
          refine JO_getI (pc := 77) fl_X11_241 rfl fkX1_foundBy dX11_word_77 ?_
          refine JO_iastc (pc := 80) (k := 1) akX11_lying (by decide) (by decide) dX11_word_80 (fun σ8 => ?_)
          refine JO_aload_n (pc := 81) dX11_word_81 rfl ?_
          refine JO_iconst (pc := 82) (a := 2) dX11_word_82 (by decide) ?_
          refine JO_putI (pc := 83) fl_X11_91 rfl fkX11_lyingCount dX11_word_83 (fun σ9 => ?_)
          refine JO_iload (pc := 86) dX11_word_86 rfl ?_
          exact JO_reti (pc := 88) rfl dX11_word_88
      · refine JO_iconst (pc := 25) (a := (-1)) dX11_word_25 (by decide) ?_
        exact JO_reti (pc := 26) rfl dX11_word_26
set_option maxHeartbeats 4000000 in
set_option maxRecDepth 100000 in
theorem w_X11_lies (G : JG) (d : Nat) (x1 : Int32) (σ : Mem) : JS G mX11_lies d [.ref (G.1 + off 0), .int x1] σ rI (X11_lies x1 σ) := by
  refine JS_of 0 (by decide +kernel) (Nat.le_of_ble_eq_true rfl) (L := [some (.ref (G.1 + off 0)), some (.int x1)]) rfl ?_
  unfold X11_lies
  refine JO_iload_n (pc := 0) dX11_lies_0 rfl ?_
  refine JO_if_lt (pc := 1) (tgt := 21) dX11_lies_1 (by decide) ?_ ?_
  · refine JO_ldcw (pc := 21) kc_X11_274 rfl dX11_lies_21 ?_
    exact JO_reti (pc := 24) rfl dX11_lies_24
  · refine JO_iload_n (pc := 4) dX11_lies_4 rfl ?_
    refine JO_aload_n (pc := 5) dX11_lies_5 rfl ?_
    refine JO_getI (pc := 6) fl_X11_91 rfl fkX11_lyingCount dX11_lies_6 ?_
    refine JO_icmp_ge (pc := 9) (tgt := 21) dX11_lies_9 (by decide) ?_ ?_
    · refine JO_ldcw (pc := 21) kc_X11_274 rfl dX11_lies_21 ?_
      exact JO_reti (pc := 24) rfl dX11_lies_24
    · refine JO_aload_n (pc := 12) dX11_lies_12 rfl ?_
      refine JO_getR (pc := 13) fl_X11_77 rfl fkX11_lying dX11_lies_13 ?_
      refine JO_iload_n (pc := 16) dX11_lies_16 rfl ?_
      refine JO_iald (pc := 17) akX11_lying dX11_lies_17 ?_
      refine JO_goto (pc := 18) (tgt := 24) dX11_lies_18 (by decide) ?_
      exact JO_reti (pc := 24) rfl dX11_lies_24
set_option maxHeartbeats 4000000 in
set_option maxRecDepth 100000 in
theorem w_X11_step (G : JG) (d : Nat) (x1 : Int32) (x2 : Int32) (x3 : Int32) (σ : Mem) : JS G mX11_step (d + 1) [.ref (G.1 + off 0), .int x1, .int x2, .int x3] σ rI (X11_step x1 x2 x3 σ) := by
  refine JS_of 0 (by decide +kernel) (Nat.le_of_ble_eq_true rfl) (L := [some (.ref (G.1 + off 0)), some (.int x1), some (.int x2), some (.int x3)]) rfl ?_
  unfold X11_step
  refine JO_aload_n (pc := 0) dX11_step_0 rfl ?_
  refine JO_iload_n (pc := 1) dX11_step_1 rfl ?_
  refine JO_callVi (pc := 2) [.int x1] lk_X11_125 rfl (ci := 11) rfl shX11 (w_X11_isPerson G d x1 σ) rfl rfl (Nat.le_of_ble_eq_true rfl) dX11_step_2 (fun r1 => ?_)
  refine JO_if_eq (pc := 5) (tgt := 33) dX11_step_5 (by decide) ?_ ?_
  · refine JO_iconst (pc := 33) (a := (-1)) dX11_step_33 (by decide) ?_
    exact JO_reti (pc := 34) rfl dX11_step_34
  · refine JO_iload_n (pc := 8) dX11_step_8 rfl ?_
    refine JO_if_lt (pc := 9) (tgt := 33) dX11_step_9 (by decide) ?_ ?_
    · refine JO_iconst (pc := 33) (a := (-1)) dX11_step_33 (by decide) ?_
      exact JO_reti (pc := 34) rfl dX11_step_34
    · refine JO_iload_n (pc := 12) dX11_step_12 rfl ?_
      refine JO_aload_n (pc := 13) dX11_step_13 rfl ?_
      refine JO_getT (pc := 14) fl_X11_83 rfl fkX11_told dX11_step_14 (fun q2 hq2 => ?_)
      refine JO_getI (pc := 17) fl_X11_177 rfl (fkTown_day hq2) dX11_step_17 ?_
      refine JO_icmp_ge (pc := 20) (tgt := 33) dX11_step_20 (by decide) ?_ ?_
      · refine JO_iconst (pc := 33) (a := (-1)) dX11_step_33 (by decide) ?_
        exact JO_reti (pc := 34) rfl dX11_step_34
      · refine JO_iload_n (pc := 23) dX11_step_23 rfl ?_
        refine JO_if_lt (pc := 24) (tgt := 33) dX11_step_24 (by decide) ?_ ?_
        · refine JO_iconst (pc := 33) (a := (-1)) dX11_step_33 (by decide) ?_
          exact JO_reti (pc := 34) rfl dX11_step_34
        · refine JO_iload_n (pc := 27) dX11_step_27 rfl ?_
          refine JO_bipush (pc := 28) (a := 20) dX11_step_28 (by decide) ?_
          refine JO_icmp_le (pc := 30) (tgt := 35) dX11_step_30 (by decide) ?_ ?_
          · refine JO_aload_n (pc := 35) dX11_step_35 rfl ?_
            refine JO_getR (pc := 36) fl_X11_65 rfl fkX11_steps dX11_step_36 ?_
            refine JO_iload_n (pc := 39) dX11_step_39 rfl ?_
            refine JO_iload_n (pc := 40) dX11_step_40 rfl ?_
            refine JO_iload_n (pc := 41) dX11_step_41 rfl ?_
            refine JO_callVi (pc := 42) [.int x1, .int x2, .int x3] lk_X11_275 rfl (ci := 8) rfl shX8 (w_X8_tell G d x1 x2 x3 r1.2) rfl rfl (Nat.le_of_ble_eq_true rfl) dX11_step_42 (fun r3 => ?_)
            exact JO_reti (pc := 45) rfl dX11_step_45
          · refine JO_iconst (pc := 33) (a := (-1)) dX11_step_33 (by decide) ?_
            exact JO_reti (pc := 34) rfl dX11_step_34
set_option maxHeartbeats 4000000 in
set_option maxRecDepth 100000 in
theorem w_X11_untell (G : JG) (d : Nat) (x1 : Int32) (σ : Mem) : JS G mX11_untell (d + 1) [.ref (G.1 + off 0), .int x1] σ rI (X11_untell x1 σ) := by
  refine JS_of 0 (by decide +kernel) (Nat.le_of_ble_eq_true rfl) (L := [some (.ref (G.1 + off 0)), some (.int x1)]) rfl ?_
  unfold X11_untell
  refine JO_aload_n (pc := 0) dX11_untell_0 rfl ?_
  refine JO_getR (pc := 1) fl_X11_65 rfl fkX11_steps dX11_untell_1 ?_
  refine JO_iload_n (pc := 4) dX11_untell_4 rfl ?_
  refine JO_callVi (pc := 5) [.int x1] lk_X11_279 rfl (ci := 8) rfl shX8 (w_X8_takeBack G d x1 σ) rfl rfl (Nat.le_of_ble_eq_true rfl) dX11_untell_5 (fun r1 => ?_)
  exact JO_retz (pc := 8) rfl dX11_untell_8
set_option maxHeartbeats 4000000 in
set_option maxRecDepth 100000 in
theorem w_X11_later (G : JG) (d : Nat) (x1 : Int32) (σ : Mem) : JS G mX11_later (d + 1) [.ref (G.1 + off 0), .int x1] σ rI (X11_later x1 σ) := by
  refine JS_of 0 (by decide +kernel) (Nat.le_of_ble_eq_true rfl) (L := [some (.ref (G.1 + off 0)), some (.int x1)]) rfl ?_
  unfold X11_later
  refine JO_aload_n (pc := 0) dX11_later_0 rfl ?_
  refine JO_getR (pc := 1) fl_X11_65 rfl fkX11_steps dX11_later_1 ?_
  refine JO_iload_n (pc := 4) dX11_later_4 rfl ?_
  refine JO_callVi (pc := 5) [.int x1] lk_X11_282 rfl (ci := 8) rfl shX8 (w_X8_goOn G d x1 σ) rfl rfl (Nat.le_of_ble_eq_true rfl) dX11_later_5 (fun r1 => ?_)
  exact JO_reti (pc := 8) rfl dX11_later_8
set_option maxHeartbeats 4000000 in
set_option maxRecDepth 100000 in
theorem w_X11_fit (G : JG) (d : Nat) (x1 : Int32) (x2 : Int32) (σ : Mem) : JS G mX11_fit (d + 3) [.ref (G.1 + off 0), .int x1, .int x2] σ rI (X11_fit x1 x2 σ) := by
  refine JS_of 0 (by decide +kernel) (Nat.le_of_ble_eq_true rfl) (L := [some (.ref (G.1 + off 0)), some (.int x1), some (.int x2)]) rfl ?_
  unfold X11_fit
  refine JO_aload_n (pc := 0) dX11_fit_0 rfl ?_
  refine JO_iload_n (pc := 1) dX11_fit_1 rfl ?_
  refine JO_callVi (pc := 2) [.int x1] lk_X11_125 rfl (ci := 11) rfl shX11 (w_X11_isPerson G (d + 2) x1 σ) rfl rfl (Nat.le_of_ble_eq_true rfl) dX11_fit_2 (fun r1 => ?_)
  refine JO_if_eq (pc := 5) (tgt := 24) dX11_fit_5 (by decide) ?_ ?_
  · refine JO_iconst (pc := 24) (a := (-1)) dX11_fit_24 (by decide) ?_
    exact JO_reti (pc := 25) rfl dX11_fit_25
  · refine JO_aload_n (pc := 8) dX11_fit_8 rfl ?_
    refine JO_getR (pc := 9) fl_X11_65 rfl fkX11_steps dX11_fit_9 ?_
    refine JO_aload_n (pc := 12) dX11_fit_12 rfl ?_
    refine JO_getT (pc := 13) fl_X11_83 rfl fkX11_told dX11_fit_13 (fun q2 hq2 => ?_)
    refine JO_iload_n (pc := 16) dX11_fit_16 rfl ?_
    refine JO_iload_n (pc := 17) dX11_fit_17 rfl ?_
    refine JO_callVi (pc := 18) [.ref (G.1 + off q2), .int x1, .int x2] lk_X11_285 rfl (ci := 8) rfl shX8 (w_X8_fittingAims G d q2 hq2 x1 x2 r1.2) rfl rfl (Nat.le_of_ble_eq_true rfl) dX11_fit_18 (fun r3 => ?_)
    refine JO_goto (pc := 21) (tgt := 25) dX11_fit_21 (by decide) ?_
    exact JO_reti (pc := 25) rfl dX11_fit_25
set_option maxHeartbeats 4000000 in
set_option maxRecDepth 100000 in
theorem w_X11_sham_37 (G : JG) (d : Nat) (k4 : Int32 → Int32 → Int32 → Mem → Option (Int32 × Mem)) (hk4 : ∀ (x1 : Int32) (x2 : Int32) (x3 : Int32) (σ : Mem), JO G mX11_sham (d + 3) 4 [some (.ref (G.1 + off 0)), some (.int x1), some (.int x2), some (.int x3)] [] σ rI (k4 x1 x2 x3 σ)) : ∀ (x1 : Int32) (x2 : Int32) (x3 : Int32) (σ : Mem), JO G mX11_sham (d + 3) 37 [some (.ref (G.1 + off 0)), some (.int x1), some (.int x2), some (.int x3)] [] σ rI (X11_sham_37 k4 x1 x2 x3 σ) := by
  intro x1 x2 x3 σ
  unfold X11_sham_37
  refine JO_inc (pc := 37) (b := 1) (L' := fun v7 => [some (.ref (G.1 + off 0)), some (.int x1), some (.int x2), some (.int v7)]) dX11_sham_37 rfl rfl (by decide) rfl (fun _ => rfl) (fun v7 => ?_)
  refine JO_goto (pc := 40) (tgt := 4) dX11_sham_40 (by decide) ?_
  exact JO_sub (l_sub_some (l_sub_some (l_sub_some (l_sub_some (l_sub_nil))))) (hk4 x1 x2 v7 σ)
set_option maxHeartbeats 4000000 in
set_option maxRecDepth 100000 in
theorem w_X11_sham_4 (G : JG) (d : Nat) : ∀ (n : Nat) (x1 : Int32) (x2 : Int32) (x3 : Int32) (σ : Mem), JO G mX11_sham (d + 3) 4 [some (.ref (G.1 + off 0)), some (.int x1), some (.int x2), some (.int x3)] [] σ rI (X11_sham_4 n x1 x2 x3 σ) := by
  intro n
  induction n with
  | zero =>
    intro x1 x2 x3 σ
    exact JO_none
  | succ n ih =>
    intro x1 x2 x3 σ
    rw [X11_sham_4]
    refine JO_iload_n (pc := 4) dX11_sham_4 rfl ?_
    refine JO_aload_n (pc := 5) dX11_sham_5 rfl ?_
    refine JO_getT (pc := 6) fl_X11_83 rfl fkX11_told dX11_sham_6 (fun q3 hq3 => ?_)
    refine JO_getI (pc := 9) fl_X11_116 rfl (fkTown_people hq3) dX11_sham_9 ?_
    refine JO_icmp_ge (pc := 12) (tgt := 43) dX11_sham_12 (by decide) ?_ ?_
    · refine JO_iload_n (pc := 43) dX11_sham_43 rfl ?_
      exact JO_reti (pc := 44) rfl dX11_sham_44
    · refine JO_aload_n (pc := 15) dX11_sham_15 rfl ?_
      refine JO_getR (pc := 16) fl_X11_65 rfl fkX11_steps dX11_sham_16 ?_
      refine JO_aload_n (pc := 19) dX11_sham_19 rfl ?_
      refine JO_getT (pc := 20) fl_X11_83 rfl fkX11_told dX11_sham_20 (fun q4 hq4 => ?_)
      refine JO_iload_n (pc := 23) dX11_sham_23 rfl ?_
      refine JO_iload_n (pc := 24) dX11_sham_24 rfl ?_
      refine JO_callVi (pc := 25) [.ref (G.1 + off q4), .int x3, .int x1] lk_X11_285 rfl (ci := 8) rfl shX8 (w_X8_fittingAims G d q4 hq4 x3 x1 σ) rfl rfl (Nat.le_of_ble_eq_true rfl) dX11_sham_25 (fun r5 => ?_)
      refine JO_if_ne (pc := 28) (tgt := 37) dX11_sham_28 (by decide) ?_ ?_
      · exact JO_sub (l_sub_some (l_sub_some (l_sub_some (l_sub_some (l_sub_nil))))) (w_X11_sham_37 G d _ (ih) x1 x2 x3 r5.2)
      · refine JO_iload_n (pc := 31) dX11_sham_31 rfl ?_
        refine JO_iconst (pc := 32) (a := 1) dX11_sham_32 (by decide) ?_
        refine JO_iload_n (pc := 33) dX11_sham_33 rfl ?_
        refine JO_ishl (pc := 34) dX11_sham_34 ?_
        refine JO_ior (pc := 35) dX11_sham_35 ?_
        refine JO_nm (fun v6 => ?_)
        refine JO_istore_n (pc := 36) (L' := [some (.ref (G.1 + off 0)), some (.int x1), some (.int v6), some (.int x3)]) dX11_sham_36 rfl rfl rfl ?_
        exact JO_sub (l_sub_some (l_sub_some (l_sub_some (l_sub_some (l_sub_nil))))) (w_X11_sham_37 G d _ (ih) x1 v6 x3 r5.2)
set_option maxHeartbeats 4000000 in
set_option maxRecDepth 100000 in
theorem w_X11_sham (G : JG) (d : Nat) (x1 : Int32) (σ : Mem) : JS G mX11_sham (d + 3) [.ref (G.1 + off 0), .int x1] σ rI (X11_sham x1 σ) := by
  refine JS_of 2 (by decide +kernel) (Nat.le_of_ble_eq_true rfl) (L := [some (.ref (G.1 + off 0)), some (.int x1), none, none]) rfl ?_
  unfold X11_sham
  refine JO_iconst (pc := 0) (a := 0) dX11_sham_0 (by decide) ?_
  refine JO_nm (fun v1 => ?_)
  refine JO_istore_n (pc := 1) (L' := [some (.ref (G.1 + off 0)), some (.int x1), some (.int v1), none]) dX11_sham_1 rfl rfl rfl ?_
  refine JO_iconst (pc := 2) (a := 0) dX11_sham_2 (by decide) ?_
  refine JO_nm (fun v2 => ?_)
  refine JO_istore_n (pc := 3) (L' := [some (.ref (G.1 + off 0)), some (.int x1), some (.int v1), some (.int v2)]) dX11_sham_3 rfl rfl rfl ?_
  exact JO_sub (l_sub_some (l_sub_some (l_sub_some (l_sub_some (l_sub_nil))))) (w_X11_sham_4 G d fu x1 v1 v2 σ)
set_option maxHeartbeats 4000000 in
set_option maxRecDepth 100000 in
theorem w_X11_ask (G : JG) (d : Nat) (x1 : Int32) (x2 : Int32) (x3 : Int32) (σ : Mem) : JS G mX11_ask (d + 4) [.ref (G.1 + off 0), .int x1, .int x2, .int x3] σ rI (X11_ask x1 x2 x3 σ) := by
  refine JS_of 0 (by decide +kernel) (Nat.le_of_ble_eq_true rfl) (L := [some (.ref (G.1 + off 0)), some (.int x1), some (.int x2), some (.int x3)]) rfl ?_
  unfold X11_ask
  refine JO_aload_n (pc := 0) dX11_ask_0 rfl ?_
  refine JO_iload_n (pc := 1) dX11_ask_1 rfl ?_
  refine JO_callVi (pc := 2) [.int x1] lk_X11_125 rfl (ci := 11) rfl shX11 (w_X11_isPerson G (d + 3) x1 σ) rfl rfl (Nat.le_of_ble_eq_true rfl) dX11_ask_2 (fun r1 => ?_)
  refine JO_if_eq (pc := 5) (tgt := 31) dX11_ask_5 (by decide) ?_ ?_
  · refine JO_iconst (pc := 31) (a := (-1)) dX11_ask_31 (by decide) ?_
    exact JO_reti (pc := 32) rfl dX11_ask_32
  · refine JO_iload_n (pc := 8) dX11_ask_8 rfl ?_
    refine JO_callSi (pc := 9) [.int x2] lk_X11_231 rfl (w_X11_isZeroOrOne G (d + 3) x2 r1.2) rfl rfl (Nat.le_of_ble_eq_true rfl) dX11_ask_9 (fun r2 => ?_)
    refine JO_if_eq (pc := 12) (tgt := 31) dX11_ask_12 (by decide) ?_ ?_
    · refine JO_iconst (pc := 31) (a := (-1)) dX11_ask_31 (by decide) ?_
      exact JO_reti (pc := 32) rfl dX11_ask_32
    · refine JO_aload_n (pc := 15) dX11_ask_15 rfl ?_
      refine JO_getR (pc := 16) fl_X11_65 rfl fkX11_steps dX11_ask_16 ?_
      refine JO_aload_n (pc := 19) dX11_ask_19 rfl ?_
      refine JO_getT (pc := 20) fl_X11_83 rfl fkX11_told dX11_ask_20 (fun q3 hq3 => ?_)
      refine JO_iload_n (pc := 23) dX11_ask_23 rfl ?_
      refine JO_iload_n (pc := 24) dX11_ask_24 rfl ?_
      refine JO_callVi (pc := 25) [.ref (G.1 + off q3), .int x1, .int x3] lk_X11_288 rfl (ci := 8) rfl shX8 (w_X8_findHourToAsk G d q3 hq3 x1 x3 r2.2) rfl rfl (Nat.le_of_ble_eq_true rfl) dX11_ask_25 (fun r4 => ?_)
      refine JO_if_ne (pc := 28) (tgt := 33) dX11_ask_28 (by decide) ?_ ?_
      · refine JO_iload_n (pc := 33) dX11_ask_33 rfl ?_
        refine JO_if_ne (pc := 34) (tgt := 47) dX11_ask_34 (by decide) ?_ ?_
        · refine JO_aload_n (pc := 47) dX11_ask_47 rfl ?_
          refine JO_getR (pc := 48) fl_X11_65 rfl fkX11_steps dX11_ask_48 ?_
          refine JO_getI (pc := 51) fl_X11_295 rfl fkX8_leftAtMost dX11_ask_51 ?_
          exact JO_reti (pc := 54) rfl dX11_ask_54
        · refine JO_aload_n (pc := 37) dX11_ask_37 rfl ?_
          refine JO_getR (pc := 38) fl_X11_65 rfl fkX11_steps dX11_ask_38 ?_
          refine JO_getI (pc := 41) fl_X11_292 rfl fkX8_hourToAsk dX11_ask_41 ?_
          refine JO_goto (pc := 44) (tgt := 54) dX11_ask_44 (by decide) ?_
          exact JO_reti (pc := 54) rfl dX11_ask_54
      · refine JO_iconst (pc := 31) (a := (-1)) dX11_ask_31 (by decide) ?_
        exact JO_reti (pc := 32) rfl dX11_ask_32
set_option maxHeartbeats 4000000 in
set_option maxRecDepth 100000 in
theorem w_X11_image (G : JG) (d : Nat) (x1 : Int32) (σ : Mem) : JS G mX11_image (d + 2) [.ref (G.1 + off 0), .int x1] σ rI (X11_image x1 σ) := by
  refine JS_of 0 (by decide +kernel) (Nat.le_of_ble_eq_true rfl) (L := [some (.ref (G.1 + off 0)), some (.int x1)]) rfl ?_
  unfold X11_image
  refine JO_iload_n (pc := 0) dX11_image_0 rfl ?_
  refine JO_if_lt (pc := 1) (tgt := 9) dX11_image_1 (by decide) ?_ ?_
  · refine JO_iconst (pc := 9) (a := (-1)) dX11_image_9 (by decide) ?_
    exact JO_reti (pc := 10) rfl dX11_image_10
  · refine JO_iload_n (pc := 4) dX11_image_4 rfl ?_
    refine JO_iconst (pc := 5) (a := 3) dX11_image_5 (by decide) ?_
    refine JO_icmp_lt (pc := 6) (tgt := 11) dX11_image_6 (by decide) ?_ ?_
    · refine JO_aload_n (pc := 11) dX11_image_11 rfl ?_
      refine JO_getR (pc := 12) fl_X11_23 rfl fkX11_now dX11_image_12 ?_
      refine JO_aload_n (pc := 15) dX11_image_15 rfl ?_
      refine JO_getR (pc := 16) fl_X11_69 rfl fkX11_boxRows dX11_image_16 ?_
      refine JO_iload_n (pc := 19) dX11_image_19 rfl ?_
      refine JO_bipush (pc := 20) (a := 63) dX11_image_20 (by decide) ?_
      refine JO_imul (pc := 22) dX11_image_22 ?_
      refine JO_callVv (pc := 23) [.ref (G.1 + off 121), .int (x1 * 63)] lk_X11_298 rfl (ci := 7) rfl (shState (by unfold isState; decide)) (w_X7_store G d 31 121 189 (by unfold isState; decide) akX11_boxRows (x1 * 63) σ) rfl rfl (Nat.le_of_ble_eq_true rfl) dX11_image_23 (fun σ1 => ?_)
      refine JO_aload_n (pc := 26) dX11_image_26 rfl ?_
      refine JO_getR (pc := 27) fl_X11_73 rfl fkX11_boxFilled dX11_image_27 ?_
      refine JO_iload_n (pc := 30) dX11_image_30 rfl ?_
      refine JO_iconst (pc := 31) (a := 1) dX11_image_31 (by decide) ?_
      refine JO_zastc (pc := 32) akX11_boxFilled (by decide) dX11_image_32 (fun σ2 => ?_)
      refine JO_aload_n (pc := 33) dX11_image_33 rfl ?_
      refine JO_getR (pc := 34) fl_X11_23 rfl fkX11_now dX11_image_34 ?_
      refine JO_getI (pc := 37) fl_X11_191 rfl (fkState_past (by unfold isState; decide)) dX11_image_37 ?_
      exact JO_reti (pc := 40) rfl dX11_image_40
    · refine JO_iconst (pc := 9) (a := (-1)) dX11_image_9 (by decide) ?_
      exact JO_reti (pc := 10) rfl dX11_image_10
set_option maxHeartbeats 4000000 in
set_option maxRecDepth 100000 in
theorem w_X11_back (G : JG) (d : Nat) (x1 : Int32) (σ : Mem) : JS G mX11_back (d + 3) [.ref (G.1 + off 0), .int x1] σ rI (X11_back x1 σ) := by
  refine JS_of 0 (by decide +kernel) (Nat.le_of_ble_eq_true rfl) (L := [some (.ref (G.1 + off 0)), some (.int x1)]) rfl ?_
  unfold X11_back
  refine JO_iload_n (pc := 0) dX11_back_0 rfl ?_
  refine JO_if_lt (pc := 1) (tgt := 18) dX11_back_1 (by decide) ?_ ?_
  · refine JO_iconst (pc := 18) (a := (-1)) dX11_back_18 (by decide) ?_
    exact JO_reti (pc := 19) rfl dX11_back_19
  · refine JO_iload_n (pc := 4) dX11_back_4 rfl ?_
    refine JO_iconst (pc := 5) (a := 3) dX11_back_5 (by decide) ?_
    refine JO_icmp_ge (pc := 6) (tgt := 18) dX11_back_6 (by decide) ?_ ?_
    · refine JO_iconst (pc := 18) (a := (-1)) dX11_back_18 (by decide) ?_
      exact JO_reti (pc := 19) rfl dX11_back_19
    · refine JO_aload_n (pc := 9) dX11_back_9 rfl ?_
      refine JO_getR (pc := 10) fl_X11_73 rfl fkX11_boxFilled dX11_back_10 ?_
      refine JO_iload_n (pc := 13) dX11_back_13 rfl ?_
      refine JO_zald (pc := 14) akX11_boxFilled dX11_back_14 ?_
      refine JO_if_ne (pc := 15) (tgt := 20) dX11_back_15 (by decide) ?_ ?_
      · refine JO_aload_n (pc := 20) dX11_back_20 rfl ?_
        refine JO_getR (pc := 21) fl_X11_23 rfl fkX11_now dX11_back_21 ?_
        refine JO_aload_n (pc := 24) dX11_back_24 rfl ?_
        refine JO_getR (pc := 25) fl_X11_69 rfl fkX11_boxRows dX11_back_25 ?_
        refine JO_iload_n (pc := 28) dX11_back_28 rfl ?_
        refine JO_bipush (pc := 29) (a := 63) dX11_back_29 (by decide) ?_
        refine JO_imul (pc := 31) dX11_back_31 ?_
        refine JO_callVv (pc := 32) [.ref (G.1 + off 121), .int (x1 * 63)] lk_X11_301 rfl (ci := 7) rfl (shState (by unfold isState; decide)) (w_X7_load G (d + 1) 31 121 189 (by unfold isState; decide) akX11_boxRows (x1 * 63) σ) rfl rfl (Nat.le_of_ble_eq_true rfl) dX11_back_32 (fun σ1 => ?_)
        refine JO_aload_n (pc := 35) dX11_back_35 rfl ?_
        refine JO_getR (pc := 36) fl_X11_30 rfl fkX11_history dX11_back_36 ?_
        refine JO_aload_n (pc := 39) dX11_back_39 rfl ?_
        refine JO_getR (pc := 40) fl_X11_23 rfl fkX11_now dX11_back_40 ?_
        refine JO_callVv (pc := 43) [.ref (G.1 + off 31)] lk_X11_110 rfl (ci := 3) rfl shX3 (w_X3_begin G d 31 (by unfold isState; decide) σ1) rfl rfl (Nat.le_of_ble_eq_true rfl) dX11_back_43 (fun σ2 => ?_)
        refine JO_aload_n (pc := 46) dX11_back_46 rfl ?_
        refine JO_getR (pc := 47) fl_X11_23 rfl fkX11_now dX11_back_47 ?_
        refine JO_getI (pc := 50) fl_X11_191 rfl (fkState_past (by unfold isState; decide)) dX11_back_50 ?_
        exact JO_reti (pc := 53) rfl dX11_back_53
      · refine JO_iconst (pc := 18) (a := (-1)) dX11_back_18 (by decide) ?_
        exact JO_reti (pc := 19) rfl dX11_back_19
set_option maxHeartbeats 4000000 in
set_option maxRecDepth 100000 in
theorem w_X11_about (G : JG) (d : Nat) (x1 : Int32) (σ : Mem) : JS G mX11_about (d + 1) [.ref (G.1 + off 0), .int x1] σ rI (X11_about x1 σ) := by
  refine JS_of 0 (by decide +kernel) (Nat.le_of_ble_eq_true rfl) (L := [some (.ref (G.1 + off 0)), some (.int x1)]) rfl ?_
  unfold X11_about
  refine JO_iload_n (pc := 0) dX11_about_0 rfl ?_
  refine JO_ite (fun hc0 => ?_) (fun hc0 => ?_)
  · rw [hc0]
    refine JO_tin (pc := 1) (tgt := 72) dX11_about_1 (by decide) (by decide) rfl (by decide) ?_
    refine JO_aload_n (pc := 72) dX11_about_72 rfl ?_
    refine JO_getT (pc := 73) fl_X11_83 rfl fkX11_told dX11_about_73 (fun q1 hq1 => ?_)
    refine JO_getI (pc := 76) fl_X11_116 rfl (fkTown_people hq1) dX11_about_76 ?_
    exact JO_reti (pc := 79) rfl dX11_about_79
  refine JO_ite (fun hc1 => ?_) (fun hc1 => ?_)
  · rw [hc1]
    refine JO_tin (pc := 1) (tgt := 80) dX11_about_1 (by decide) (by decide) rfl (by decide) ?_
    refine JO_aload_n (pc := 80) dX11_about_80 rfl ?_
    refine JO_getT (pc := 81) fl_X11_83 rfl fkX11_told dX11_about_81 (fun q2 hq2 => ?_)
    refine JO_getI (pc := 84) fl_X11_177 rfl (fkTown_day hq2) dX11_about_84 ?_
    exact JO_reti (pc := 87) rfl dX11_about_87
  refine JO_ite (fun hc2 => ?_) (fun hc2 => ?_)
  · rw [hc2]
    refine JO_tin (pc := 1) (tgt := 88) dX11_about_1 (by decide) (by decide) rfl (by decide) ?_
    refine JO_aload_n (pc := 88) dX11_about_88 rfl ?_
    refine JO_getR (pc := 89) fl_X11_23 rfl fkX11_now dX11_about_89 ?_
    refine JO_getI (pc := 92) fl_X11_304 rfl (fkState_date (by unfold isState; decide)) dX11_about_92 ?_
    exact JO_reti (pc := 95) rfl dX11_about_95
  refine JO_ite (fun hc3 => ?_) (fun hc3 => ?_)
  · rw [hc3]
    refine JO_tin (pc := 1) (tgt := 96) dX11_about_1 (by decide) (by decide) rfl (by decide) ?_
    refine JO_aload_n (pc := 96) dX11_about_96 rfl ?_
    refine JO_getR (pc := 97) fl_X11_23 rfl fkX11_now dX11_about_97 ?_
    refine JO_getI (pc := 100) fl_X11_307 rfl (fkState_hour (by unfold isState; decide)) dX11_about_100 ?_
    exact JO_reti (pc := 103) rfl dX11_about_103
  refine JO_ite (fun hc4 => ?_) (fun hc4 => ?_)
  · rw [hc4]
    refine JO_tin (pc := 1) (tgt := 104) dX11_about_1 (by decide) (by decide) rfl (by decide) ?_
    refine JO_aload_n (pc := 104) dX11_about_104 rfl ?_
    refine JO_getR (pc := 105) fl_X11_23 rfl fkX11_now dX11_about_105 ?_
    refine JO_getI (pc := 108) fl_X11_191 rfl (fkState_past (by unfold isState; decide)) dX11_about_108 ?_
    exact JO_reti (pc := 111) rfl dX11_about_111
  refine JO_ite (fun hc5 => ?_) (fun hc5 => ?_)
  · rw [hc5]
    refine JO_tin (pc := 1) (tgt := 112) dX11_about_1 (by decide) (by decide) rfl (by decide) ?_
    refine JO_aload_n (pc := 112) dX11_about_112 rfl ?_
    refine JO_getR (pc := 113) fl_X11_30 rfl fkX11_history dX11_about_113 ?_
    refine JO_getI (pc := 116) fl_X11_310 rfl fkX3_done dX11_about_116 ?_
    exact JO_reti (pc := 119) rfl dX11_about_119
  refine JO_ite (fun hc6 => ?_) (fun hc6 => ?_)
  · rw [hc6]
    refine JO_tin (pc := 1) (tgt := 120) dX11_about_1 (by decide) (by decide) rfl (by decide) ?_
    refine JO_aload_n (pc := 120) dX11_about_120 rfl ?_
    refine JO_getR (pc := 121) fl_X11_30 rfl fkX11_history dX11_about_121 ?_
    refine JO_getI (pc := 124) fl_X11_313 rfl fkX3_kept dX11_about_124 ?_
    refine JO_aload_n (pc := 127) dX11_about_127 rfl ?_
    refine JO_getR (pc := 128) fl_X11_30 rfl fkX11_history dX11_about_128 ?_
    refine JO_getI (pc := 131) fl_X11_310 rfl fkX3_done dX11_about_131 ?_
    refine JO_isub (pc := 134) dX11_about_134 ?_
    exact JO_reti (pc := 135) rfl dX11_about_135
  refine JO_ite (fun hc7 => ?_) (fun hc7 => ?_)
  · rw [hc7]
    refine JO_tin (pc := 1) (tgt := 136) dX11_about_1 (by decide) (by decide) rfl (by decide) ?_
    refine JO_aload_n (pc := 136) dX11_about_136 rfl ?_
    refine JO_getR (pc := 137) fl_X11_65 rfl fkX11_steps dX11_about_137 ?_
    refine JO_getI (pc := 140) fl_X11_316 rfl fkX8_count dX11_about_140 ?_
    exact JO_reti (pc := 143) rfl dX11_about_143
  refine JO_ite (fun hc8 => ?_) (fun hc8 => ?_)
  · rw [hc8]
    refine JO_tin (pc := 1) (tgt := 144) dX11_about_1 (by decide) (by decide) rfl (by decide) ?_
    refine JO_aload_n (pc := 144) dX11_about_144 rfl ?_
    refine JO_getR (pc := 145) fl_X11_65 rfl fkX11_steps dX11_about_145 ?_
    refine JO_getI (pc := 148) fl_X11_317 rfl fkX8_time dX11_about_148 ?_
    exact JO_reti (pc := 151) rfl dX11_about_151
  refine JO_ite (fun hc9 => ?_) (fun hc9 => ?_)
  · rw [hc9]
    refine JO_tin (pc := 1) (tgt := 152) dX11_about_1 (by decide) (by decide) rfl (by decide) ?_
    refine JO_aload_n (pc := 152) dX11_about_152 rfl ?_
    refine JO_getI (pc := 153) fl_X11_87 rfl fkX11_tapeLength dX11_about_153 ?_
    exact JO_reti (pc := 156) rfl dX11_about_156
  refine JO_ite (fun hc10 => ?_) (fun hc10 => ?_)
  · rw [hc10]
    refine JO_tin (pc := 1) (tgt := 157) dX11_about_1 (by decide) (by decide) rfl (by decide) ?_
    refine JO_aload_n (pc := 157) dX11_about_157 rfl ?_
    refine JO_getT (pc := 158) fl_X11_83 rfl fkX11_told dX11_about_158 (fun q3 hq3 => ?_)
    refine JO_getI (pc := 161) fl_X11_320 rfl (fkTown_units hq3) dX11_about_161 ?_
    exact JO_reti (pc := 164) rfl dX11_about_164
  refine JO_ite (fun hc11 => ?_) (fun hc11 => ?_)
  · rw [hc11]
    refine JO_tin (pc := 1) (tgt := 165) dX11_about_1 (by decide) (by decide) rfl (by decide) ?_
    refine JO_aload_n (pc := 165) dX11_about_165 rfl ?_
    refine JO_getT (pc := 166) fl_X11_83 rfl fkX11_told dX11_about_166 (fun q4 hq4 => ?_)
    refine JO_getR (pc := 169) fl_X11_323 rfl (fkTown_law hq4) dX11_about_169 ?_
    refine JO_getI (pc := 172) fl_X11_327 rfl (fkForm_numbers (inTown_law hq4)) dX11_about_172 ?_
    exact JO_reti (pc := 175) rfl dX11_about_175
  refine JO_ite (fun hc12 => ?_) (fun hc12 => ?_)
  · rw [hc12]
    refine JO_tin (pc := 1) (tgt := 176) dX11_about_1 (by decide) (by decide) rfl (by decide) ?_
    refine JO_aload_n (pc := 176) dX11_about_176 rfl ?_
    refine JO_getI (pc := 177) fl_X11_91 rfl fkX11_lyingCount dX11_about_177 ?_
    exact JO_reti (pc := 180) rfl dX11_about_180
  refine JO_ite (fun hc13 => ?_) (fun hc13 => ?_)
  · rw [hc13]
    refine JO_tin (pc := 1) (tgt := 181) dX11_about_1 (by decide) (by decide) rfl (by decide) ?_
    refine JO_aload_n (pc := 181) dX11_about_181 rfl ?_
    refine JO_getR (pc := 182) fl_X11_23 rfl fkX11_now dX11_about_182 ?_
    refine JO_callVi (pc := 185) [] lk_X11_332 rfl (ci := 7) rfl (shState (by unfold isState; decide)) (w_X7_debtsLeft G d 31 (by unfold isState; decide) σ) rfl rfl (Nat.le_of_ble_eq_true rfl) dX11_about_185 (fun r5 => ?_)
    exact JO_reti (pc := 188) rfl dX11_about_188
  have z0 : x1.toInt ≠ 0 := ne_toInt hc0
  have z1 : x1.toInt ≠ 1 := ne_toInt hc1
  have z2 : x1.toInt ≠ 2 := ne_toInt hc2
  have z3 : x1.toInt ≠ 3 := ne_toInt hc3
  have z4 : x1.toInt ≠ 4 := ne_toInt hc4
  have z5 : x1.toInt ≠ 5 := ne_toInt hc5
  have z6 : x1.toInt ≠ 6 := ne_toInt hc6
  have z7 : x1.toInt ≠ 7 := ne_toInt hc7
  have z8 : x1.toInt ≠ 8 := ne_toInt hc8
  have z9 : x1.toInt ≠ 9 := ne_toInt hc9
  have z10 : x1.toInt ≠ 10 := ne_toInt hc10
  have z11 : x1.toInt ≠ 11 := ne_toInt hc11
  have z12 : x1.toInt ≠ 12 := ne_toInt hc12
  have z13 : x1.toInt ≠ 13 := ne_toInt hc13
  refine JO_tout (pc := 1) (tgt := 189) dX11_about_1 (by omega) (by decide) ?_
  refine JO_iconst (pc := 189) (a := (-1)) dX11_about_189 (by decide) ?_
  exact JO_reti (pc := 190) rfl dX11_about_190
