set_option maxHeartbeats 4000000 in
set_option maxRecDepth 100000 in
theorem w_X1_payOfNextHour (G : JG) (d : Nat) (t : Nat) (s : Nat) (ht : isTown t) (hs : isState s) (x3 : Int32) (σ : Mem) : JS G mX1_payOfNextHour (d + 5) [.ref (G.1 + off 43), .ref (G.1 + off t), .ref (G.1 + off s), .int x3] σ rI (X1_payOfNextHour t s x3 σ) := by
  refine JS_of 0 (by decide +kernel) (Nat.le_of_ble_eq_true rfl) (L := [some (.ref (G.1 + off 43)), some (.ref (G.1 + off t)), some (.ref (G.1 + off s)), some (.int x3)]) rfl ?_
  unfold X1_payOfNextHour
  refine JO_aload_n (pc := 0) dX1_payOfNextHour_0 rfl ?_
  refine JO_aload_n (pc := 1) dX1_payOfNextHour_1 rfl ?_
  refine JO_aload_n (pc := 2) dX1_payOfNextHour_2 rfl ?_
  refine JO_iconst (pc := 3) (a := 1) dX1_payOfNextHour_3 (by decide) ?_
  refine JO_callVv (pc := 4) [.ref (G.1 + off t), .ref (G.1 + off s), .int 1] lk_X1_32 rfl (ci := 1) rfl shX1 (w_X1_lookAhead G d t s ht hs 1 σ) rfl rfl (Nat.le_of_ble_eq_true rfl) dX1_payOfNextHour_4 (fun σ1 => ?_)
  refine JO_aload_n (pc := 7) dX1_payOfNextHour_7 rfl ?_
  refine JO_getR (pc := 8) fl_X1_12 rfl fkX1_clock dX1_payOfNextHour_8 ?_
  refine JO_getR (pc := 11) fl_X1_36 rfl (fkClock_paid (by unfold isClock; decide)) dX1_payOfNextHour_11 ?_
  refine JO_iload_n (pc := 14) dX1_payOfNextHour_14 rfl ?_
  refine JO_iald (pc := 15) (akClock_paid (by unfold isClock; decide)) dX1_payOfNextHour_15 ?_
  exact JO_reti (pc := 16) rfl dX1_payOfNextHour_16
set_option maxHeartbeats 4000000 in
set_option maxRecDepth 100000 in
theorem w_X1_owedBehind (G : JG) (d : Nat) (t : Nat) (s : Nat) (ht : isTown t) (hs : isState s) (x3 : Int32) (x4 : Int32) (σ : Mem) : JS G mX1_owedBehind (d + 5) [.ref (G.1 + off 43), .ref (G.1 + off t), .ref (G.1 + off s), .int x3, .int x4] σ rI (X1_owedBehind t s x3 x4 σ) := by
  refine JS_of 0 (by decide +kernel) (Nat.le_of_ble_eq_true rfl) (L := [some (.ref (G.1 + off 43)), some (.ref (G.1 + off t)), some (.ref (G.1 + off s)), some (.int x3), some (.int x4)]) rfl ?_
  unfold X1_owedBehind
  refine JO_aload_n (pc := 0) dX1_owedBehind_0 rfl ?_
  refine JO_aload_n (pc := 1) dX1_owedBehind_1 rfl ?_
  refine JO_aload_n (pc := 2) dX1_owedBehind_2 rfl ?_
  refine JO_iload (pc := 3) dX1_owedBehind_3 rfl ?_
  refine JO_callVv (pc := 5) [.ref (G.1 + off t), .ref (G.1 + off s), .int x4] lk_X1_32 rfl (ci := 1) rfl shX1 (w_X1_lookAhead G d t s ht hs x4 σ) rfl rfl (Nat.le_of_ble_eq_true rfl) dX1_owedBehind_5 (fun σ1 => ?_)
  refine JO_aload_n (pc := 8) dX1_owedBehind_8 rfl ?_
  refine JO_getR (pc := 9) fl_X1_21 rfl fkX1_trial dX1_owedBehind_9 ?_
  refine JO_getR (pc := 12) fl_X1_39 rfl (fkState_debt (by unfold isState; decide)) dX1_owedBehind_12 ?_
  refine JO_iload_n (pc := 15) dX1_owedBehind_15 rfl ?_
  refine JO_iald (pc := 16) (akState_debt (by unfold isState; decide)) dX1_owedBehind_16 ?_
  exact JO_reti (pc := 17) rfl dX1_owedBehind_17
set_option maxHeartbeats 4000000 in
set_option maxRecDepth 100000 in
theorem w_X1_hoursOfTrial_2 (G : JG) (d : Nat) (t : Nat) (ht : isTown t) : ∀ (n : Nat) (x2 : Int32) (x3 : Int32) (σ : Mem), JO G mX1_hoursOfTrial (d + 4) 2 [some (.ref (G.1 + off 43)), some (.ref (G.1 + off t)), some (.int x2), some (.int x3)] [] σ rI (X1_hoursOfTrial_2 t n x2 x3 σ) := by
  intro n
  induction n with
  | zero =>
    intro x2 x3 σ
    exact JO_none
  | succ n ih =>
    intro x2 x3 σ
    rw [X1_hoursOfTrial_2]
    refine JO_iload_n (pc := 2) dX1_hoursOfTrial_2 rfl ?_
    refine JO_sipush (pc := 3) (a := 200) dX1_hoursOfTrial_3 (by decide) ?_
    refine JO_icmp_ge (pc := 6) (tgt := 42) dX1_hoursOfTrial_6 (by decide) ?_ ?_
    · refine JO_aload_n (pc := 42) dX1_hoursOfTrial_42 rfl ?_
      refine JO_getR (pc := 43) fl_X1_21 rfl fkX1_trial dX1_hoursOfTrial_43 ?_
      refine JO_getR (pc := 46) fl_X1_39 rfl (fkState_debt (by unfold isState; decide)) dX1_hoursOfTrial_46 ?_
      refine JO_iload_n (pc := 49) dX1_hoursOfTrial_49 rfl ?_
      refine JO_iald (pc := 50) (akState_debt (by unfold isState; decide)) dX1_hoursOfTrial_50 ?_
      refine JO_if_ne (pc := 51) (tgt := 60) dX1_hoursOfTrial_51 (by decide) ?_ ?_
      · refine JO_iconst (pc := 60) (a := (-1)) dX1_hoursOfTrial_60 (by decide) ?_
        exact JO_reti (pc := 61) rfl dX1_hoursOfTrial_61
      · refine JO_sipush (pc := 54) (a := 200) dX1_hoursOfTrial_54 (by decide) ?_
        refine JO_goto (pc := 57) (tgt := 61) dX1_hoursOfTrial_57 (by decide) ?_
        exact JO_reti (pc := 61) rfl dX1_hoursOfTrial_61
    · refine JO_aload_n (pc := 9) dX1_hoursOfTrial_9 rfl ?_
      refine JO_getR (pc := 10) fl_X1_21 rfl fkX1_trial dX1_hoursOfTrial_10 ?_
      refine JO_getR (pc := 13) fl_X1_39 rfl (fkState_debt (by unfold isState; decide)) dX1_hoursOfTrial_13 ?_
      refine JO_iload_n (pc := 16) dX1_hoursOfTrial_16 rfl ?_
      refine JO_iald (pc := 17) (akState_debt (by unfold isState; decide)) dX1_hoursOfTrial_17 ?_
      refine JO_if_ne (pc := 18) (tgt := 23) dX1_hoursOfTrial_18 (by decide) ?_ ?_
      · refine JO_aload_n (pc := 23) dX1_hoursOfTrial_23 rfl ?_
        refine JO_getR (pc := 24) fl_X1_12 rfl fkX1_clock dX1_hoursOfTrial_24 ?_
        refine JO_aload_n (pc := 27) dX1_hoursOfTrial_27 rfl ?_
        refine JO_aload_n (pc := 28) dX1_hoursOfTrial_28 rfl ?_
        refine JO_getR (pc := 29) fl_X1_21 rfl fkX1_trial dX1_hoursOfTrial_29 ?_
        refine JO_callVi (pc := 32) [.ref (G.1 + off t), .ref (G.1 + off 48)] lk_X1_46 rfl (ci := 0) rfl (shClock (by unfold isClock; decide)) (w_X0_pass G d 44 t 48 (by unfold isClock; decide) ht (by unfold isState; decide) σ) rfl rfl (Nat.le_of_ble_eq_true rfl) dX1_hoursOfTrial_32 (fun r2 => ?_)
        refine JO_pop (pc := 35) dX1_hoursOfTrial_35 rfl ?_
        refine JO_inc (pc := 36) (b := 1) (L' := fun v3 => [some (.ref (G.1 + off 43)), some (.ref (G.1 + off t)), some (.int x2), some (.int v3)]) dX1_hoursOfTrial_36 rfl rfl (by decide) rfl (fun _ => rfl) (fun v3 => ?_)
        refine JO_goto (pc := 39) (tgt := 2) dX1_hoursOfTrial_39 (by decide) ?_
        exact JO_sub (l_sub_some (l_sub_some (l_sub_some (l_sub_some (l_sub_nil))))) (ih x2 v3 r2.2)
      · refine JO_iload_n (pc := 21) dX1_hoursOfTrial_21 rfl ?_
        exact JO_reti (pc := 22) rfl dX1_hoursOfTrial_22
set_option maxHeartbeats 4000000 in
set_option maxRecDepth 100000 in
theorem w_X1_hoursOfTrial (G : JG) (d : Nat) (t : Nat) (ht : isTown t) (x2 : Int32) (σ : Mem) : JS G mX1_hoursOfTrial (d + 4) [.ref (G.1 + off 43), .ref (G.1 + off t), .int x2] σ rI (X1_hoursOfTrial t x2 σ) := by
  refine JS_of 1 (by decide +kernel) (Nat.le_of_ble_eq_true rfl) (L := [some (.ref (G.1 + off 43)), some (.ref (G.1 + off t)), some (.int x2), none]) rfl ?_
  unfold X1_hoursOfTrial
  refine JO_iconst (pc := 0) (a := 0) dX1_hoursOfTrial_0 (by decide) ?_
  refine JO_nm (fun v1 => ?_)
  refine JO_istore_n (pc := 1) (L' := [some (.ref (G.1 + off 43)), some (.ref (G.1 + off t)), some (.int x2), some (.int v1)]) dX1_hoursOfTrial_1 rfl rfl rfl ?_
  exact JO_sub (l_sub_some (l_sub_some (l_sub_some (l_sub_some (l_sub_nil))))) (w_X1_hoursOfTrial_2 G d t ht fu x2 v1 σ)
set_option maxHeartbeats 4000000 in
set_option maxRecDepth 100000 in
theorem w_X1_hoursTillPaid (G : JG) (d : Nat) (t : Nat) (s : Nat) (ht : isTown t) (hs : isState s) (x3 : Int32) (σ : Mem) : JS G mX1_hoursTillPaid (d + 5) [.ref (G.1 + off 43), .ref (G.1 + off t), .ref (G.1 + off s), .int x3] σ rI (X1_hoursTillPaid t s x3 σ) := by
  refine JS_of 0 (by decide +kernel) (Nat.le_of_ble_eq_true rfl) (L := [some (.ref (G.1 + off 43)), some (.ref (G.1 + off t)), some (.ref (G.1 + off s)), some (.int x3)]) rfl ?_
  unfold X1_hoursTillPaid
  refine JO_aload_n (pc := 0) dX1_hoursTillPaid_0 rfl ?_
  refine JO_getR (pc := 1) fl_X1_21 rfl fkX1_trial dX1_hoursTillPaid_1 ?_
  refine JO_aload_n (pc := 4) dX1_hoursTillPaid_4 rfl ?_
  refine JO_callVv (pc := 5) [.ref (G.1 + off s)] lk_X1_42 rfl (ci := 7) rfl (shState (by unfold isState; decide)) (w_X7_copy G (d + 3) 48 s (by unfold isState; decide) hs σ) rfl rfl (Nat.le_of_ble_eq_true rfl) dX1_hoursTillPaid_5 (fun σ1 => ?_)
  refine JO_aload_n (pc := 8) dX1_hoursTillPaid_8 rfl ?_
  refine JO_aload_n (pc := 9) dX1_hoursTillPaid_9 rfl ?_
  refine JO_iload_n (pc := 10) dX1_hoursTillPaid_10 rfl ?_
  refine JO_callVi (pc := 11) [.ref (G.1 + off t), .int x3] lk_X1_50 rfl (ci := 1) rfl shX1 (w_X1_hoursOfTrial G d t ht x3 σ1) rfl rfl (Nat.le_of_ble_eq_true rfl) dX1_hoursTillPaid_11 (fun r2 => ?_)
  exact JO_reti (pc := 14) rfl dX1_hoursTillPaid_14
set_option maxHeartbeats 4000000 in
set_option maxRecDepth 100000 in
theorem w_X1_findThrong_76 (G : JG) (d : Nat) (t : Nat) (s : Nat) (ht : isTown t) (hs : isState s) (k21 : Int32 → Int32 → Int32 → Mem → Option Mem) (hk21 : ∀ (x3 : Int32) (x4 : Int32) (x5 : Int32) (σ : Mem), JO G mX1_findThrong (d + 4) 21 [some (.ref (G.1 + off 43)), some (.ref (G.1 + off t)), none, some (.int x3), some (.int x4), some (.int x5)] [] σ rV (k21 x3 x4 x5 σ)) : ∀ (x3 : Int32) (x4 : Int32) (x5 : Int32) (σ : Mem), JO G mX1_findThrong (d + 4) 76 [some (.ref (G.1 + off 43)), some (.ref (G.1 + off t)), none, some (.int x3), some (.int x4), some (.int x5)] [] σ rV (X1_findThrong_76 t s k21 x3 x4 x5 σ) := by
  intro x3 x4 x5 σ
  unfold X1_findThrong_76
  refine JO_inc (pc := 76) (b := 1) (L' := fun v8 => [some (.ref (G.1 + off 43)), some (.ref (G.1 + off t)), none, some (.int x3), some (.int x4), some (.int v8)]) dX1_findThrong_76 rfl rfl (by decide) rfl (fun _ => rfl) (fun v8 => ?_)
  refine JO_goto (pc := 79) (tgt := 21) dX1_findThrong_79 (by decide) ?_
  exact JO_sub (l_sub_some (l_sub_some (l_sub_none (l_sub_some (l_sub_some (l_sub_some (l_sub_nil))))))) (hk21 x3 x4 v8 σ)
set_option maxHeartbeats 4000000 in
set_option maxRecDepth 100000 in
theorem w_X1_findThrong_21 (G : JG) (d : Nat) (t : Nat) (s : Nat) (ht : isTown t) (hs : isState s) : ∀ (n : Nat) (x3 : Int32) (x4 : Int32) (x5 : Int32) (σ : Mem), JO G mX1_findThrong (d + 4) 21 [some (.ref (G.1 + off 43)), some (.ref (G.1 + off t)), none, some (.int x3), some (.int x4), some (.int x5)] [] σ rV (X1_findThrong_21 t s n x3 x4 x5 σ) := by
  intro n
  induction n with
  | zero =>
    intro x3 x4 x5 σ
    exact JO_none
  | succ n ih =>
    intro x3 x4 x5 σ
    rw [X1_findThrong_21]
    refine JO_iload (pc := 21) dX1_findThrong_21 rfl ?_
    refine JO_iload (pc := 23) dX1_findThrong_23 rfl ?_
    refine JO_icmp_gt (pc := 25) (tgt := 82) dX1_findThrong_25 (by decide) ?_ ?_
    · exact JO_retv (pc := 82) rfl dX1_findThrong_82
    · refine JO_aload_n (pc := 28) dX1_findThrong_28 rfl ?_
      refine JO_getR (pc := 29) fl_X1_12 rfl fkX1_clock dX1_findThrong_29 ?_
      refine JO_aload_n (pc := 32) dX1_findThrong_32 rfl ?_
      refine JO_aload_n (pc := 33) dX1_findThrong_33 rfl ?_
      refine JO_getR (pc := 34) fl_X1_21 rfl fkX1_trial dX1_findThrong_34 ?_
      refine JO_callVi (pc := 37) [.ref (G.1 + off t), .ref (G.1 + off 48)] lk_X1_46 rfl (ci := 0) rfl (shClock (by unfold isClock; decide)) (w_X0_pass G d 44 t 48 (by unfold isClock; decide) ht (by unfold isState; decide) σ) rfl rfl (Nat.le_of_ble_eq_true rfl) dX1_findThrong_37 (fun r5 => ?_)
      refine JO_pop (pc := 40) dX1_findThrong_40 rfl ?_
      refine JO_aload_n (pc := 41) dX1_findThrong_41 rfl ?_
      refine JO_getR (pc := 42) fl_X1_12 rfl fkX1_clock dX1_findThrong_42 ?_
      refine JO_getR (pc := 45) fl_X1_61 rfl (fkClock_crowd (by unfold isClock; decide)) dX1_findThrong_45 ?_
      refine JO_iload_n (pc := 48) dX1_findThrong_48 rfl ?_
      refine JO_iald (pc := 49) (akClock_crowd (by unfold isClock; decide)) dX1_findThrong_49 ?_
      refine JO_aload_n (pc := 50) dX1_findThrong_50 rfl ?_
      refine JO_getI (pc := 51) fl_X1_54 rfl fkX1_found dX1_findThrong_51 ?_
      refine JO_icmp_le (pc := 54) (tgt := 76) dX1_findThrong_54 (by decide) ?_ ?_
      · exact JO_sub (l_sub_some (l_sub_some (l_sub_none (l_sub_some (l_sub_some (l_sub_some (l_sub_nil))))))) (w_X1_findThrong_76 G d t s ht hs _ (ih) x3 x4 x5 r5.2)
      · refine JO_aload_n (pc := 57) dX1_findThrong_57 rfl ?_
        refine JO_aload_n (pc := 58) dX1_findThrong_58 rfl ?_
        refine JO_getR (pc := 59) fl_X1_12 rfl fkX1_clock dX1_findThrong_59 ?_
        refine JO_getR (pc := 62) fl_X1_61 rfl (fkClock_crowd (by unfold isClock; decide)) dX1_findThrong_62 ?_
        refine JO_iload_n (pc := 65) dX1_findThrong_65 rfl ?_
        refine JO_iald (pc := 66) (akClock_crowd (by unfold isClock; decide)) dX1_findThrong_66 ?_
        refine JO_putI (pc := 67) fl_X1_54 rfl fkX1_found dX1_findThrong_67 (fun σ6 => ?_)
        refine JO_aload_n (pc := 70) dX1_findThrong_70 rfl ?_
        refine JO_iload (pc := 71) dX1_findThrong_71 rfl ?_
        refine JO_putI (pc := 73) fl_X1_58 rfl fkX1_foundBy dX1_findThrong_73 (fun σ7 => ?_)
        exact JO_sub (l_sub_some (l_sub_some (l_sub_none (l_sub_some (l_sub_some (l_sub_some (l_sub_nil))))))) (w_X1_findThrong_76 G d t s ht hs _ (ih) x3 x4 x5 σ7)
set_option maxHeartbeats 4000000 in
set_option maxRecDepth 100000 in
theorem w_X1_findThrong (G : JG) (d : Nat) (t : Nat) (s : Nat) (ht : isTown t) (hs : isState s) (x3 : Int32) (x4 : Int32) (σ : Mem) : JS G mX1_findThrong (d + 4) [.ref (G.1 + off 43), .ref (G.1 + off t), .ref (G.1 + off s), .int x3, .int x4] σ rV (X1_findThrong t s x3 x4 σ) := by
  refine JS_of 1 (by decide +kernel) (Nat.le_of_ble_eq_true rfl) (L := [some (.ref (G.1 + off 43)), some (.ref (G.1 + off t)), some (.ref (G.1 + off s)), some (.int x3), some (.int x4), none]) rfl ?_
  unfold X1_findThrong
  refine JO_aload_n (pc := 0) dX1_findThrong_0 rfl ?_
  refine JO_iconst (pc := 1) (a := 0) dX1_findThrong_1 (by decide) ?_
  refine JO_putI (pc := 2) fl_X1_54 rfl fkX1_found dX1_findThrong_2 (fun σ1 => ?_)
  refine JO_aload_n (pc := 5) dX1_findThrong_5 rfl ?_
  refine JO_iconst (pc := 6) (a := (-1)) dX1_findThrong_6 (by decide) ?_
  refine JO_putI (pc := 7) fl_X1_58 rfl fkX1_foundBy dX1_findThrong_7 (fun σ2 => ?_)
  refine JO_aload_n (pc := 10) dX1_findThrong_10 rfl ?_
  refine JO_getR (pc := 11) fl_X1_21 rfl fkX1_trial dX1_findThrong_11 ?_
  refine JO_aload_n (pc := 14) dX1_findThrong_14 rfl ?_
  refine JO_callVv (pc := 15) [.ref (G.1 + off s)] lk_X1_42 rfl (ci := 7) rfl (shState (by unfold isState; decide)) (w_X7_copy G (d + 2) 48 s (by unfold isState; decide) hs σ2) rfl rfl (Nat.le_of_ble_eq_true rfl) dX1_findThrong_15 (fun σ3 => ?_)
  refine JO_iconst (pc := 18) (a := 1) dX1_findThrong_18 (by decide) ?_
  refine JO_nm (fun v4 => ?_)
  refine JO_istore (pc := 19) (L' := [some (.ref (G.1 + off 43)), some (.ref (G.1 + off t)), some (.ref (G.1 + off s)), some (.int x3), some (.int x4), some (.int v4)]) dX1_findThrong_19 rfl rfl rfl ?_
  exact JO_sub (l_sub_some (l_sub_some (l_sub_none (l_sub_some (l_sub_some (l_sub_some (l_sub_nil))))))) (w_X1_findThrong_21 G d t s ht hs fu x3 x4 v4 σ3)
set_option maxHeartbeats 4000000 in
set_option maxRecDepth 100000 in
theorem w_X1_hourOfMeeting_35 (G : JG) (d : Nat) (t : Nat) (s : Nat) (ht : isTown t) (hs : isState s) : ∀ (n : Nat) (x3 : Int32) (x5 : Int32) (x6 : Int32) (σ : Mem), JO G mX1_hourOfMeeting (d + 4) 35 [some (.ref (G.1 + off 43)), some (.ref (G.1 + off t)), none, some (.int x3), none, some (.int x5), some (.int x6)] [] σ rI (X1_hourOfMeeting_35 t s n x3 x5 x6 σ) := by
  intro n
  induction n with
  | zero =>
    intro x3 x5 x6 σ
    exact JO_none
  | succ n ih =>
    intro x3 x5 x6 σ
    rw [X1_hourOfMeeting_35]
    refine JO_iload (pc := 35) dX1_hourOfMeeting_35 rfl ?_
    refine JO_iload (pc := 37) dX1_hourOfMeeting_37 rfl ?_
    refine JO_icmp_gt (pc := 39) (tgt := 70) dX1_hourOfMeeting_39 (by decide) ?_ ?_
    · refine JO_iconst (pc := 70) (a := (-1)) dX1_hourOfMeeting_70 (by decide) ?_
      exact JO_reti (pc := 71) rfl dX1_hourOfMeeting_71
    · refine JO_aload_n (pc := 42) dX1_hourOfMeeting_42 rfl ?_
      refine JO_getR (pc := 43) fl_X1_12 rfl fkX1_clock dX1_hourOfMeeting_43 ?_
      refine JO_aload_n (pc := 46) dX1_hourOfMeeting_46 rfl ?_
      refine JO_aload_n (pc := 47) dX1_hourOfMeeting_47 rfl ?_
      refine JO_getR (pc := 48) fl_X1_21 rfl fkX1_trial dX1_hourOfMeeting_48 ?_
      refine JO_callVi (pc := 51) [.ref (G.1 + off t), .ref (G.1 + off 48)] lk_X1_46 rfl (ci := 0) rfl (shClock (by unfold isClock; decide)) (w_X0_pass G d 44 t 48 (by unfold isClock; decide) ht (by unfold isState; decide) σ) rfl rfl (Nat.le_of_ble_eq_true rfl) dX1_hourOfMeeting_51 (fun r3 => ?_)
      refine JO_iload_n (pc := 54) dX1_hourOfMeeting_54 rfl ?_
      refine JO_callSi (pc := 55) [.int r3.1, .int x3] lk_X1_67 rfl (w_X0_isMeeting G (d + 3) r3.1 x3 r3.2) rfl rfl (Nat.le_of_ble_eq_true rfl) dX1_hourOfMeeting_55 (fun r4 => ?_)
      refine JO_if_eq (pc := 58) (tgt := 64) dX1_hourOfMeeting_58 (by decide) ?_ ?_
      · refine JO_inc (pc := 64) (b := 1) (L' := fun v5 => [some (.ref (G.1 + off 43)), some (.ref (G.1 + off t)), none, some (.int x3), none, some (.int x5), some (.int v5)]) dX1_hourOfMeeting_64 rfl rfl (by decide) rfl (fun _ => rfl) (fun v5 => ?_)
        refine JO_goto (pc := 67) (tgt := 35) dX1_hourOfMeeting_67 (by decide) ?_
        exact JO_sub (l_sub_some (l_sub_some (l_sub_none (l_sub_some (l_sub_none (l_sub_some (l_sub_some (l_sub_nil)))))))) (ih x3 x5 v5 r4.2)
      · refine JO_iload (pc := 61) dX1_hourOfMeeting_61 rfl ?_
        exact JO_reti (pc := 63) rfl dX1_hourOfMeeting_63
set_option maxHeartbeats 4000000 in
set_option maxRecDepth 100000 in
theorem w_X1_hourOfMeeting (G : JG) (d : Nat) (t : Nat) (s : Nat) (ht : isTown t) (hs : isState s) (x3 : Int32) (x4 : Int32) (x5 : Int32) (σ : Mem) : JS G mX1_hourOfMeeting (d + 4) [.ref (G.1 + off 43), .ref (G.1 + off t), .ref (G.1 + off s), .int x3, .int x4, .int x5] σ rI (X1_hourOfMeeting t s x3 x4 x5 σ) := by
  refine JS_of 1 (by decide +kernel) (Nat.le_of_ble_eq_true rfl) (L := [some (.ref (G.1 + off 43)), some (.ref (G.1 + off t)), some (.ref (G.1 + off s)), some (.int x3), some (.int x4), some (.int x5), none]) rfl ?_
  unfold X1_hourOfMeeting
  refine JO_aload_n (pc := 0) dX1_hourOfMeeting_0 rfl ?_
  refine JO_getR (pc := 1) fl_X1_64 rfl (fkState_aim hs) dX1_hourOfMeeting_1 ?_
  refine JO_iload_n (pc := 4) dX1_hourOfMeeting_4 rfl ?_
  refine JO_iald (pc := 5) (akState_aim hs) dX1_hourOfMeeting_5 ?_
  refine JO_iload (pc := 6) dX1_hourOfMeeting_6 rfl ?_
  refine JO_icmp_ne (pc := 8) (tgt := 22) dX1_hourOfMeeting_8 (by decide) ?_ ?_
  · refine JO_iconst (pc := 22) (a := (-1)) dX1_hourOfMeeting_22 (by decide) ?_
    exact JO_reti (pc := 23) rfl dX1_hourOfMeeting_23
  · refine JO_aload_n (pc := 11) dX1_hourOfMeeting_11 rfl ?_
    refine JO_getR (pc := 12) fl_X1_64 rfl (fkState_aim hs) dX1_hourOfMeeting_12 ?_
    refine JO_iload (pc := 15) dX1_hourOfMeeting_15 rfl ?_
    refine JO_iald (pc := 17) (akState_aim hs) dX1_hourOfMeeting_17 ?_
    refine JO_iload_n (pc := 18) dX1_hourOfMeeting_18 rfl ?_
    refine JO_icmp_eq (pc := 19) (tgt := 24) dX1_hourOfMeeting_19 (by decide) ?_ ?_
    · refine JO_aload_n (pc := 24) dX1_hourOfMeeting_24 rfl ?_
      refine JO_getR (pc := 25) fl_X1_21 rfl fkX1_trial dX1_hourOfMeeting_25 ?_
      refine JO_aload_n (pc := 28) dX1_hourOfMeeting_28 rfl ?_
      refine JO_callVv (pc := 29) [.ref (G.1 + off s)] lk_X1_42 rfl (ci := 7) rfl (shState (by unfold isState; decide)) (w_X7_copy G (d + 2) 48 s (by unfold isState; decide) hs σ) rfl rfl (Nat.le_of_ble_eq_true rfl) dX1_hourOfMeeting_29 (fun σ1 => ?_)
      refine JO_iconst (pc := 32) (a := 1) dX1_hourOfMeeting_32 (by decide) ?_
      refine JO_nm (fun v2 => ?_)
      refine JO_istore (pc := 33) (L' := [some (.ref (G.1 + off 43)), some (.ref (G.1 + off t)), some (.ref (G.1 + off s)), some (.int x3), some (.int x4), some (.int x5), some (.int v2)]) dX1_hourOfMeeting_33 rfl rfl rfl ?_
      exact JO_sub (l_sub_some (l_sub_some (l_sub_none (l_sub_some (l_sub_none (l_sub_some (l_sub_some (l_sub_nil)))))))) (w_X1_hourOfMeeting_35 G d t s ht hs fu x3 x5 v2 σ1)
    · refine JO_iconst (pc := 22) (a := (-1)) dX1_hourOfMeeting_22 (by decide) ?_
      exact JO_reti (pc := 23) rfl dX1_hourOfMeeting_23
set_option maxHeartbeats 4000000 in
set_option maxRecDepth 100000 in
theorem w_X1_findHelper_99 (G : JG) (d : Nat) (t : Nat) (s : Nat) (ht : isTown t) (hs : isState s) (k111 : Int32 → Int32 → Int32 → Mem → Option Mem) (hk111 : ∀ (x3 : Int32) (x4 : Int32) (x5 : Int32) (σ : Mem), JO G mX1_findHelper (d + 5) 111 [some (.ref (G.1 + off 43)), some (.ref (G.1 + off t)), some (.ref (G.1 + off s)), some (.int x3), some (.int x4), some (.int x5), none] [] σ rV (k111 x3 x4 x5 σ)) : ∀ (x3 : Int32) (x4 : Int32) (x5 : Int32) (x6 : Int32) (σ : Mem), JO G mX1_findHelper (d + 5) 99 [some (.ref (G.1 + off 43)), some (.ref (G.1 + off t)), some (.ref (G.1 + off s)), some (.int x3), some (.int x4), some (.int x5), some (.int x6)] [] σ rV (X1_findHelper_99 t s k111 x3 x4 x5 x6 σ) := by
  intro x3 x4 x5 x6 σ
  unfold X1_findHelper_99
  refine JO_aload_n (pc := 99) dX1_findHelper_99 rfl ?_
  refine JO_iload (pc := 100) dX1_findHelper_100 rfl ?_
  refine JO_putI (pc := 102) fl_X1_54 rfl fkX1_found dX1_findHelper_102 (fun σ11 => ?_)
  refine JO_aload_n (pc := 105) dX1_findHelper_105 rfl ?_
  refine JO_iload (pc := 106) dX1_findHelper_106 rfl ?_
  refine JO_putI (pc := 108) fl_X1_58 rfl fkX1_foundBy dX1_findHelper_108 (fun σ12 => ?_)
  exact JO_sub (l_sub_some (l_sub_some (l_sub_some (l_sub_some (l_sub_some (l_sub_some (l_sub_none (l_sub_nil)))))))) (hk111 x3 x4 x5 σ12)
set_option maxHeartbeats 4000000 in
set_option maxRecDepth 100000 in
theorem w_X1_findHelper_111 (G : JG) (d : Nat) (t : Nat) (s : Nat) (ht : isTown t) (hs : isState s) (k13 : Int32 → Int32 → Int32 → Mem → Option Mem) (hk13 : ∀ (x3 : Int32) (x4 : Int32) (x5 : Int32) (σ : Mem), JO G mX1_findHelper (d + 5) 13 [some (.ref (G.1 + off 43)), some (.ref (G.1 + off t)), some (.ref (G.1 + off s)), some (.int x3), some (.int x4), some (.int x5), none] [] σ rV (k13 x3 x4 x5 σ)) : ∀ (x3 : Int32) (x4 : Int32) (x5 : Int32) (σ : Mem), JO G mX1_findHelper (d + 5) 111 [some (.ref (G.1 + off 43)), some (.ref (G.1 + off t)), some (.ref (G.1 + off s)), some (.int x3), some (.int x4), some (.int x5), none] [] σ rV (X1_findHelper_111 t s k13 x3 x4 x5 σ) := by
  intro x3 x4 x5 σ
  unfold X1_findHelper_111
  refine JO_inc (pc := 111) (b := 1) (L' := fun v10 => [some (.ref (G.1 + off 43)), some (.ref (G.1 + off t)), some (.ref (G.1 + off s)), some (.int x3), some (.int x4), some (.int v10), none]) dX1_findHelper_111 rfl rfl (by decide) rfl (fun _ => rfl) (fun v10 => ?_)
  refine JO_goto (pc := 114) (tgt := 13) dX1_findHelper_114 (by decide) ?_
  exact JO_sub (l_sub_some (l_sub_some (l_sub_some (l_sub_some (l_sub_some (l_sub_some (l_sub_none (l_sub_nil)))))))) (hk13 x3 x4 v10 σ)
set_option maxHeartbeats 4000000 in
set_option maxRecDepth 100000 in
theorem w_X1_findHelper_13 (G : JG) (d : Nat) (t : Nat) (s : Nat) (ht : isTown t) (hs : isState s) : ∀ (n : Nat) (x3 : Int32) (x4 : Int32) (x5 : Int32) (σ : Mem), JO G mX1_findHelper (d + 5) 13 [some (.ref (G.1 + off 43)), some (.ref (G.1 + off t)), some (.ref (G.1 + off s)), some (.int x3), some (.int x4), some (.int x5), none] [] σ rV (X1_findHelper_13 t s n x3 x4 x5 σ) := by
  intro n
  induction n with
  | zero =>
    intro x3 x4 x5 σ
    exact JO_none
  | succ n ih =>
    intro x3 x4 x5 σ
    rw [X1_findHelper_13]
    refine JO_iload (pc := 13) dX1_findHelper_13 rfl ?_
    refine JO_aload_n (pc := 15) dX1_findHelper_15 rfl ?_
    refine JO_getI (pc := 16) fl_X1_71 rfl (fkTown_people ht) dX1_findHelper_16 ?_
    refine JO_icmp_ge (pc := 19) (tgt := 117) dX1_findHelper_19 (by decide) ?_ ?_
    · exact JO_retv (pc := 117) rfl dX1_findHelper_117
    · refine JO_iload (pc := 22) dX1_findHelper_22 rfl ?_
      refine JO_iload (pc := 24) dX1_findHelper_24 rfl ?_
      refine JO_icmp_ne (pc := 26) (tgt := 32) dX1_findHelper_26 (by decide) ?_ ?_
      · refine JO_aload_n (pc := 32) dX1_findHelper_32 rfl ?_
        refine JO_getR (pc := 33) fl_X1_21 rfl fkX1_trial dX1_findHelper_33 ?_
        refine JO_aload_n (pc := 36) dX1_findHelper_36 rfl ?_
        refine JO_callVv (pc := 37) [.ref (G.1 + off s)] lk_X1_42 rfl (ci := 7) rfl (shState (by unfold isState; decide)) (w_X7_copy G (d + 3) 48 s (by unfold isState; decide) hs σ) rfl rfl (Nat.le_of_ble_eq_true rfl) dX1_findHelper_37 (fun σ4 => ?_)
        refine JO_aload_n (pc := 40) dX1_findHelper_40 rfl ?_
        refine JO_getR (pc := 41) fl_X1_21 rfl fkX1_trial dX1_findHelper_41 ?_
        refine JO_getR (pc := 44) fl_X1_64 rfl (fkState_aim (by unfold isState; decide)) dX1_findHelper_44 ?_
        refine JO_iload (pc := 47) dX1_findHelper_47 rfl ?_
        refine JO_iload (pc := 49) dX1_findHelper_49 rfl ?_
        refine JO_iast (pc := 51) (akState_aim (by unfold isState; decide)) dX1_findHelper_51 (fun σ5 => ?_)
        refine JO_aload_n (pc := 52) dX1_findHelper_52 rfl ?_
        refine JO_getR (pc := 53) fl_X1_21 rfl fkX1_trial dX1_findHelper_53 ?_
        refine JO_getR (pc := 56) fl_X1_76 rfl (fkState_stand (by unfold isState; decide)) dX1_findHelper_56 ?_
        refine JO_iload (pc := 59) dX1_findHelper_59 rfl ?_
        refine JO_iload_n (pc := 61) dX1_findHelper_61 rfl ?_
        refine JO_iast (pc := 62) (akState_stand (by unfold isState; decide)) dX1_findHelper_62 (fun σ6 => ?_)
        refine JO_aload_n (pc := 63) dX1_findHelper_63 rfl ?_
        refine JO_aload_n (pc := 64) dX1_findHelper_64 rfl ?_
        refine JO_iload_n (pc := 65) dX1_findHelper_65 rfl ?_
        refine JO_iload (pc := 66) dX1_findHelper_66 rfl ?_
        refine JO_callSNi (pc := 68) [.int x3, .int x4] lk_X1_79 rfl (w_X11_cell G (d + 4) x3 x4 σ6) rfl rfl (Nat.le_of_ble_eq_true rfl) dX1_findHelper_68 (fun r7 => ?_)
        refine JO_callVi (pc := 71) [.ref (G.1 + off t), .int r7.1] lk_X1_50 rfl (ci := 1) rfl shX1 (w_X1_hoursOfTrial G d t ht r7.1 r7.2) rfl rfl (Nat.le_of_ble_eq_true rfl) dX1_findHelper_71 (fun r8 => ?_)
        refine JO_nm (fun v9 => ?_)
        refine JO_istore (pc := 74) (L' := [some (.ref (G.1 + off 43)), some (.ref (G.1 + off t)), some (.ref (G.1 + off s)), some (.int x3), some (.int x4), some (.int x5), some (.int v9)]) dX1_findHelper_74 rfl rfl rfl ?_
        refine JO_iload (pc := 76) dX1_findHelper_76 rfl ?_
        refine JO_iconst (pc := 78) (a := (-1)) dX1_findHelper_78 (by decide) ?_
        refine JO_icmp_eq (pc := 79) (tgt := 111) dX1_findHelper_79 (by decide) ?_ ?_
        · exact JO_sub (l_sub_some (l_sub_some (l_sub_some (l_sub_some (l_sub_some (l_sub_some (l_sub_none (l_sub_nil)))))))) (w_X1_findHelper_111 G d t s ht hs _ (ih) x3 x4 x5 r8.2)
        · refine JO_aload_n (pc := 82) dX1_findHelper_82 rfl ?_
          refine JO_getI (pc := 83) fl_X1_54 rfl fkX1_found dX1_findHelper_83 ?_
          refine JO_iconst (pc := 86) (a := (-1)) dX1_findHelper_86 (by decide) ?_
          refine JO_icmp_eq (pc := 87) (tgt := 99) dX1_findHelper_87 (by decide) ?_ ?_
          · exact JO_sub (l_sub_some (l_sub_some (l_sub_some (l_sub_some (l_sub_some (l_sub_some (l_sub_some (l_sub_nil)))))))) (w_X1_findHelper_99 G d t s ht hs _ (w_X1_findHelper_111 G d t s ht hs _ (ih)) x3 x4 x5 v9 r8.2)
          · refine JO_iload (pc := 90) dX1_findHelper_90 rfl ?_
            refine JO_aload_n (pc := 92) dX1_findHelper_92 rfl ?_
            refine JO_getI (pc := 93) fl_X1_54 rfl fkX1_found dX1_findHelper_93 ?_
            refine JO_icmp_ge (pc := 96) (tgt := 111) dX1_findHelper_96 (by decide) ?_ ?_
            · exact JO_sub (l_sub_some (l_sub_some (l_sub_some (l_sub_some (l_sub_some (l_sub_some (l_sub_none (l_sub_nil)))))))) (w_X1_findHelper_111 G d t s ht hs _ (ih) x3 x4 x5 r8.2)
            · exact JO_sub (l_sub_some (l_sub_some (l_sub_some (l_sub_some (l_sub_some (l_sub_some (l_sub_some (l_sub_nil)))))))) (w_X1_findHelper_99 G d t s ht hs _ (w_X1_findHelper_111 G d t s ht hs _ (ih)) x3 x4 x5 v9 r8.2)
      · refine JO_goto (pc := 29) (tgt := 111) dX1_findHelper_29 (by decide) ?_
        exact JO_sub (l_sub_some (l_sub_some (l_sub_some (l_sub_some (l_sub_some (l_sub_some (l_sub_none (l_sub_nil)))))))) (w_X1_findHelper_111 G d t s ht hs _ (ih) x3 x4 x5 σ)
set_option maxHeartbeats 4000000 in
set_option maxRecDepth 100000 in
theorem w_X1_findHelper (G : JG) (d : Nat) (t : Nat) (s : Nat) (ht : isTown t) (hs : isState s) (x3 : Int32) (x4 : Int32) (σ : Mem) : JS G mX1_findHelper (d + 5) [.ref (G.1 + off 43), .ref (G.1 + off t), .ref (G.1 + off s), .int x3, .int x4] σ rV (X1_findHelper t s x3 x4 σ) := by
  refine JS_of 2 (by decide +kernel) (Nat.le_of_ble_eq_true rfl) (L := [some (.ref (G.1 + off 43)), some (.ref (G.1 + off t)), some (.ref (G.1 + off s)), some (.int x3), some (.int x4), none, none]) rfl ?_
  unfold X1_findHelper
  refine JO_aload_n (pc := 0) dX1_findHelper_0 rfl ?_
  refine JO_iconst (pc := 1) (a := (-1)) dX1_findHelper_1 (by decide) ?_
  refine JO_putI (pc := 2) fl_X1_54 rfl fkX1_found dX1_findHelper_2 (fun σ1 => ?_)
  refine JO_aload_n (pc := 5) dX1_findHelper_5 rfl ?_
  refine JO_iconst (pc := 6) (a := (-1)) dX1_findHelper_6 (by decide) ?_
  refine JO_putI (pc := 7) fl_X1_58 rfl fkX1_foundBy dX1_findHelper_7 (fun σ2 => ?_)
  refine JO_iconst (pc := 10) (a := 0) dX1_findHelper_10 (by decide) ?_
  refine JO_nm (fun v3 => ?_)
  refine JO_istore (pc := 11) (L' := [some (.ref (G.1 + off 43)), some (.ref (G.1 + off t)), some (.ref (G.1 + off s)), some (.int x3), some (.int x4), some (.int v3), none]) dX1_findHelper_11 rfl rfl rfl ?_
  exact JO_sub (l_sub_some (l_sub_some (l_sub_some (l_sub_some (l_sub_some (l_sub_some (l_sub_none (l_sub_nil)))))))) (w_X1_findHelper_13 G d t s ht hs fu x3 x4 v3 σ2)
set_option maxHeartbeats 4000000 in
set_option maxRecDepth 100000 in
theorem w_X7_owedTo_4 (G : JG) (d : Nat) (o : Nat) (ho : isState o) : ∀ (n : Nat) (x1 : Int32) (x2 : Int32) (x3 : Int32) (σ : Mem), JO G mX7_owedTo (d + 1) 4 [some (.ref (G.1 + off o)), some (.int x1), some (.int x2), some (.int x3)] [] σ rI (X7_owedTo_4 o n x1 x2 x3 σ) := by
  intro n
  induction n with
  | zero =>
    intro x1 x2 x3 σ
    exact JO_none
  | succ n ih =>
    intro x1 x2 x3 σ
    rw [X7_owedTo_4]
    refine JO_iload_n (pc := 4) dX7_owedTo_4 rfl ?_
    refine JO_bipush (pc := 5) (a := 6) dX7_owedTo_5 (by decide) ?_
    refine JO_icmp_ge (pc := 7) (tgt := 29) dX7_owedTo_7 (by decide) ?_ ?_
    · refine JO_iload_n (pc := 29) dX7_owedTo_29 rfl ?_
      exact JO_reti (pc := 30) rfl dX7_owedTo_30
    · refine JO_iload_n (pc := 10) dX7_owedTo_10 rfl ?_
      refine JO_aload_n (pc := 11) dX7_owedTo_11 rfl ?_
      refine JO_getR (pc := 12) fl_X7_24 rfl (fkState_debt ho) dX7_owedTo_12 ?_
      refine JO_iload_n (pc := 15) dX7_owedTo_15 rfl ?_
      refine JO_iload_n (pc := 16) dX7_owedTo_16 rfl ?_
      refine JO_callSNi (pc := 17) [.int x3, .int x1] lk_X7_50 rfl (w_X11_cell G d x3 x1 σ) rfl rfl (Nat.le_of_ble_eq_true rfl) dX7_owedTo_17 (fun r3 => ?_)
      refine JO_iald (pc := 20) (akState_debt ho) dX7_owedTo_20 ?_
      refine JO_iadd (pc := 21) dX7_owedTo_21 ?_
      refine JO_nm (fun v4 => ?_)
      refine JO_istore_n (pc := 22) (L' := [some (.ref (G.1 + off o)), some (.int x1), some (.int v4), some (.int x3)]) dX7_owedTo_22 rfl rfl rfl ?_
      refine JO_inc (pc := 23) (b := 1) (L' := fun v5 => [some (.ref (G.1 + off o)), some (.int x1), some (.int v4), some (.int v5)]) dX7_owedTo_23 rfl rfl (by decide) rfl (fun _ => rfl) (fun v5 => ?_)
      refine JO_goto (pc := 26) (tgt := 4) dX7_owedTo_26 (by decide) ?_
      exact JO_sub (l_sub_some (l_sub_some (l_sub_some (l_sub_some (l_sub_nil))))) (ih x1 v4 v5 r3.2)
set_option maxHeartbeats 4000000 in
set_option maxRecDepth 100000 in
theorem w_X7_owedTo (G : JG) (d : Nat) (o : Nat) (ho : isState o) (x1 : Int32) (σ : Mem) : JS G mX7_owedTo (d + 1) [.ref (G.1 + off o), .int x1] σ rI (X7_owedTo o x1 σ) := by
  refine JS_of 2 (by decide +kernel) (Nat.le_of_ble_eq_true rfl) (L := [some (.ref (G.1 + off o)), some (.int x1), none, none]) rfl ?_
  unfold X7_owedTo
  refine JO_iconst (pc := 0) (a := 0) dX7_owedTo_0 (by decide) ?_
  refine JO_nm (fun v1 => ?_)
  refine JO_istore_n (pc := 1) (L' := [some (.ref (G.1 + off o)), some (.int x1), some (.int v1), none]) dX7_owedTo_1 rfl rfl rfl ?_
  refine JO_iconst (pc := 2) (a := 0) dX7_owedTo_2 (by decide) ?_
  refine JO_nm (fun v2 => ?_)
  refine JO_istore_n (pc := 3) (L' := [some (.ref (G.1 + off o)), some (.int x1), some (.int v1), some (.int v2)]) dX7_owedTo_3 rfl rfl rfl ?_
  exact JO_sub (l_sub_some (l_sub_some (l_sub_some (l_sub_some (l_sub_nil))))) (w_X7_owedTo_4 G d o ho fu x1 v1 v2 σ)
set_option maxHeartbeats 4000000 in
set_option maxRecDepth 100000 in
theorem w_X1_findHiding_123 (G : JG) (d : Nat) (t : Nat) (s : Nat) (ht : isTown t) (hs : isState s) (k45 : Int32 → Int32 → Int32 → Int32 → Int32 → Mem → Option Mem) (hk45 : ∀ (x3 : Int32) (x4 : Int32) (x5 : Int32) (x6 : Int32) (x7 : Int32) (σ : Mem), JO G mX1_findHiding (d + 5) 45 [some (.ref (G.1 + off 43)), some (.ref (G.1 + off t)), some (.ref (G.1 + off s)), some (.int x3), some (.int x4), some (.int x5), some (.int x6), some (.int x7)] [] σ rV (k45 x3 x4 x5 x6 x7 σ)) : ∀ (x3 : Int32) (x4 : Int32) (x5 : Int32) (x6 : Int32) (x7 : Int32) (σ : Mem), JO G mX1_findHiding (d + 5) 123 [some (.ref (G.1 + off 43)), some (.ref (G.1 + off t)), some (.ref (G.1 + off s)), some (.int x3), some (.int x4), some (.int x5), some (.int x6), some (.int x7)] [] σ rV (X1_findHiding_123 t s k45 x3 x4 x5 x6 x7 σ) := by
  intro x3 x4 x5 x6 x7 σ
  unfold X1_findHiding_123
  refine JO_inc (pc := 123) (b := 1) (L' := fun v17 => [some (.ref (G.1 + off 43)), some (.ref (G.1 + off t)), some (.ref (G.1 + off s)), some (.int x3), some (.int x4), some (.int x5), some (.int x6), some (.int v17)]) dX1_findHiding_123 rfl rfl (by decide) rfl (fun _ => rfl) (fun v17 => ?_)
  refine JO_goto (pc := 126) (tgt := 45) dX1_findHiding_126 (by decide) ?_
  exact JO_sub (l_sub_some (l_sub_some (l_sub_some (l_sub_some (l_sub_some (l_sub_some (l_sub_some (l_sub_some (l_sub_nil))))))))) (hk45 x3 x4 x5 x6 v17 σ)
set_option maxHeartbeats 4000000 in
set_option maxRecDepth 100000 in
theorem w_X1_findHiding_45 (G : JG) (d : Nat) (t : Nat) (s : Nat) (ht : isTown t) (hs : isState s) : ∀ (n : Nat) (x3 : Int32) (x4 : Int32) (x5 : Int32) (x6 : Int32) (x7 : Int32) (σ : Mem), JO G mX1_findHiding (d + 5) 45 [some (.ref (G.1 + off 43)), some (.ref (G.1 + off t)), some (.ref (G.1 + off s)), some (.int x3), some (.int x4), some (.int x5), some (.int x6), some (.int x7)] [] σ rV (X1_findHiding_45 t s n x3 x4 x5 x6 x7 σ) := by
  intro n
  induction n with
  | zero =>
    intro x3 x4 x5 x6 x7 σ
    exact JO_none
  | succ n ih =>
    intro x3 x4 x5 x6 x7 σ
    rw [X1_findHiding_45]
    refine JO_iload (pc := 45) dX1_findHiding_45 rfl ?_
    refine JO_iload (pc := 47) dX1_findHiding_47 rfl ?_
    refine JO_iadd (pc := 49) dX1_findHiding_49 ?_
    refine JO_iload (pc := 50) dX1_findHiding_50 rfl ?_
    refine JO_isub (pc := 52) dX1_findHiding_52 ?_
    refine JO_aload_n (pc := 53) dX1_findHiding_53 rfl ?_
    refine JO_getI (pc := 54) fl_X1_93 rfl (fkTown_day ht) dX1_findHiding_54 ?_
    refine JO_icmp_gt (pc := 57) (tgt := 129) dX1_findHiding_57 (by decide) ?_ ?_
    · refine JO_aload_n (pc := 129) dX1_findHiding_129 rfl ?_
      refine JO_getR (pc := 130) fl_X1_83 rfl (fkTown_from ht) dX1_findHiding_130 ?_
      refine JO_iload_n (pc := 133) dX1_findHiding_133 rfl ?_
      refine JO_iload (pc := 134) dX1_findHiding_134 rfl ?_
      refine JO_iast (pc := 136) (akTown_from ht) dX1_findHiding_136 (fun σ8 => ?_)
      refine JO_aload_n (pc := 137) dX1_findHiding_137 rfl ?_
      refine JO_getR (pc := 138) fl_X1_86 rfl (fkTown_to ht) dX1_findHiding_138 ?_
      refine JO_iload_n (pc := 141) dX1_findHiding_141 rfl ?_
      refine JO_iload (pc := 142) dX1_findHiding_142 rfl ?_
      refine JO_iast (pc := 144) (akTown_to ht) dX1_findHiding_144 (fun σ9 => ?_)
      exact JO_retv (pc := 145) rfl dX1_findHiding_145
    · refine JO_aload_n (pc := 60) dX1_findHiding_60 rfl ?_
      refine JO_getR (pc := 61) fl_X1_83 rfl (fkTown_from ht) dX1_findHiding_61 ?_
      refine JO_iload_n (pc := 64) dX1_findHiding_64 rfl ?_
      refine JO_iload (pc := 65) dX1_findHiding_65 rfl ?_
      refine JO_iast (pc := 67) (akTown_from ht) dX1_findHiding_67 (fun σ10 => ?_)
      refine JO_aload_n (pc := 68) dX1_findHiding_68 rfl ?_
      refine JO_getR (pc := 69) fl_X1_86 rfl (fkTown_to ht) dX1_findHiding_69 ?_
      refine JO_iload_n (pc := 72) dX1_findHiding_72 rfl ?_
      refine JO_iload (pc := 73) dX1_findHiding_73 rfl ?_
      refine JO_iload (pc := 75) dX1_findHiding_75 rfl ?_
      refine JO_iadd (pc := 77) dX1_findHiding_77 ?_
      refine JO_iload (pc := 78) dX1_findHiding_78 rfl ?_
      refine JO_isub (pc := 80) dX1_findHiding_80 ?_
      refine JO_iast (pc := 81) (akTown_to ht) dX1_findHiding_81 (fun σ11 => ?_)
      refine JO_aload_n (pc := 82) dX1_findHiding_82 rfl ?_
      refine JO_aload_n (pc := 83) dX1_findHiding_83 rfl ?_
      refine JO_aload_n (pc := 84) dX1_findHiding_84 rfl ?_
      refine JO_iload (pc := 85) dX1_findHiding_85 rfl ?_
      refine JO_callVv (pc := 87) [.ref (G.1 + off t), .ref (G.1 + off s), .int x4] lk_X1_32 rfl (ci := 1) rfl shX1 (w_X1_lookAhead G d t s ht hs x4 σ11) rfl rfl (Nat.le_of_ble_eq_true rfl) dX1_findHiding_87 (fun σ12 => ?_)
      refine JO_aload_n (pc := 90) dX1_findHiding_90 rfl ?_
      refine JO_getR (pc := 91) fl_X1_21 rfl fkX1_trial dX1_findHiding_91 ?_
      refine JO_iload_n (pc := 94) dX1_findHiding_94 rfl ?_
      refine JO_callVi (pc := 95) [.int x3] lk_X1_89 rfl (ci := 7) rfl (shState (by unfold isState; decide)) (w_X7_owedTo G (d + 3) 48 (by unfold isState; decide) x3 σ12) rfl rfl (Nat.le_of_ble_eq_true rfl) dX1_findHiding_95 (fun r13 => ?_)
      refine JO_aload_n (pc := 98) dX1_findHiding_98 rfl ?_
      refine JO_getI (pc := 99) fl_X1_54 rfl fkX1_found dX1_findHiding_99 ?_
      refine JO_icmp_le (pc := 102) (tgt := 123) dX1_findHiding_102 (by decide) ?_ ?_
      · exact JO_sub (l_sub_some (l_sub_some (l_sub_some (l_sub_some (l_sub_some (l_sub_some (l_sub_some (l_sub_some (l_sub_nil))))))))) (w_X1_findHiding_123 G d t s ht hs _ (ih) x3 x4 x5 x6 x7 r13.2)
      · refine JO_aload_n (pc := 105) dX1_findHiding_105 rfl ?_
        refine JO_aload_n (pc := 106) dX1_findHiding_106 rfl ?_
        refine JO_getR (pc := 107) fl_X1_21 rfl fkX1_trial dX1_findHiding_107 ?_
        refine JO_iload_n (pc := 110) dX1_findHiding_110 rfl ?_
        refine JO_callVi (pc := 111) [.int x3] lk_X1_89 rfl (ci := 7) rfl (shState (by unfold isState; decide)) (w_X7_owedTo G (d + 3) 48 (by unfold isState; decide) x3 r13.2) rfl rfl (Nat.le_of_ble_eq_true rfl) dX1_findHiding_111 (fun r14 => ?_)
        refine JO_putI (pc := 114) fl_X1_54 rfl fkX1_found dX1_findHiding_114 (fun σ15 => ?_)
        refine JO_aload_n (pc := 117) dX1_findHiding_117 rfl ?_
        refine JO_iload (pc := 118) dX1_findHiding_118 rfl ?_
        refine JO_putI (pc := 120) fl_X1_58 rfl fkX1_foundBy dX1_findHiding_120 (fun σ16 => ?_)
        exact JO_sub (l_sub_some (l_sub_some (l_sub_some (l_sub_some (l_sub_some (l_sub_some (l_sub_some (l_sub_some (l_sub_nil))))))))) (w_X1_findHiding_123 G d t s ht hs _ (ih) x3 x4 x5 x6 x7 σ16)
set_option maxHeartbeats 4000000 in
set_option maxRecDepth 100000 in
theorem w_X1_findHiding (G : JG) (d : Nat) (t : Nat) (s : Nat) (ht : isTown t) (hs : isState s) (x3 : Int32) (x4 : Int32) (σ : Mem) : JS G mX1_findHiding (d + 5) [.ref (G.1 + off 43), .ref (G.1 + off t), .ref (G.1 + off s), .int x3, .int x4] σ rV (X1_findHiding t s x3 x4 σ) := by
  refine JS_of 3 (by decide +kernel) (Nat.le_of_ble_eq_true rfl) (L := [some (.ref (G.1 + off 43)), some (.ref (G.1 + off t)), some (.ref (G.1 + off s)), some (.int x3), some (.int x4), none, none, none]) rfl ?_
  unfold X1_findHiding
  refine JO_aload_n (pc := 0) dX1_findHiding_0 rfl ?_
  refine JO_getR (pc := 1) fl_X1_83 rfl (fkTown_from ht) dX1_findHiding_1 ?_
  refine JO_iload_n (pc := 4) dX1_findHiding_4 rfl ?_
  refine JO_iald (pc := 5) (akTown_from ht) dX1_findHiding_5 ?_
  refine JO_nm (fun v1 => ?_)
  refine JO_istore (pc := 6) (L' := [some (.ref (G.1 + off 43)), some (.ref (G.1 + off t)), some (.ref (G.1 + off s)), some (.int x3), some (.int x4), some (.int v1), none, none]) dX1_findHiding_6 rfl rfl rfl ?_
  refine JO_aload_n (pc := 8) dX1_findHiding_8 rfl ?_
  refine JO_getR (pc := 9) fl_X1_86 rfl (fkTown_to ht) dX1_findHiding_9 ?_
  refine JO_iload_n (pc := 12) dX1_findHiding_12 rfl ?_
  refine JO_iald (pc := 13) (akTown_to ht) dX1_findHiding_13 ?_
  refine JO_nm (fun v2 => ?_)
  refine JO_istore (pc := 14) (L' := [some (.ref (G.1 + off 43)), some (.ref (G.1 + off t)), some (.ref (G.1 + off s)), some (.int x3), some (.int x4), some (.int v1), some (.int v2), none]) dX1_findHiding_14 rfl rfl rfl ?_
  refine JO_aload_n (pc := 16) dX1_findHiding_16 rfl ?_
  refine JO_aload_n (pc := 17) dX1_findHiding_17 rfl ?_
  refine JO_aload_n (pc := 18) dX1_findHiding_18 rfl ?_
  refine JO_iload (pc := 19) dX1_findHiding_19 rfl ?_
  refine JO_callVv (pc := 21) [.ref (G.1 + off t), .ref (G.1 + off s), .int x4] lk_X1_32 rfl (ci := 1) rfl shX1 (w_X1_lookAhead G d t s ht hs x4 σ) rfl rfl (Nat.le_of_ble_eq_true rfl) dX1_findHiding_21 (fun σ3 => ?_)
  refine JO_aload_n (pc := 24) dX1_findHiding_24 rfl ?_
  refine JO_aload_n (pc := 25) dX1_findHiding_25 rfl ?_
  refine JO_getR (pc := 26) fl_X1_21 rfl fkX1_trial dX1_findHiding_26 ?_
  refine JO_iload_n (pc := 29) dX1_findHiding_29 rfl ?_
  refine JO_callVi (pc := 30) [.int x3] lk_X1_89 rfl (ci := 7) rfl (shState (by unfold isState; decide)) (w_X7_owedTo G (d + 3) 48 (by unfold isState; decide) x3 σ3) rfl rfl (Nat.le_of_ble_eq_true rfl) dX1_findHiding_30 (fun r4 => ?_)
  refine JO_putI (pc := 33) fl_X1_54 rfl fkX1_found dX1_findHiding_33 (fun σ5 => ?_)
  refine JO_aload_n (pc := 36) dX1_findHiding_36 rfl ?_
  refine JO_iload (pc := 37) dX1_findHiding_37 rfl ?_
  refine JO_putI (pc := 39) fl_X1_58 rfl fkX1_foundBy dX1_findHiding_39 (fun σ6 => ?_)
  refine JO_iconst (pc := 42) (a := 0) dX1_findHiding_42 (by decide) ?_
  refine JO_nm (fun v7 => ?_)
  refine JO_istore (pc := 43) (L' := [some (.ref (G.1 + off 43)), some (.ref (G.1 + off t)), some (.ref (G.1 + off s)), some (.int x3), some (.int x4), some (.int v1), some (.int v2), some (.int v7)]) dX1_findHiding_43 rfl rfl rfl ?_
  exact JO_sub (l_sub_some (l_sub_some (l_sub_some (l_sub_some (l_sub_some (l_sub_some (l_sub_some (l_sub_some (l_sub_nil))))))))) (w_X1_findHiding_45 G d t s ht hs fu x3 x4 v1 v2 v7 σ6)
set_option maxHeartbeats 4000000 in
set_option maxRecDepth 100000 in
theorem w_X1_keepRolls_11 (G : JG) (d : Nat) (t : Nat) (s : Nat) (ht : isTown t) (hs : isState s) : ∀ (n : Nat) (x3 : Int32) (x4 : Int32) (σ : Mem), JO G mX1_keepRolls (d + 3) 11 [some (.ref (G.1 + off 43)), some (.ref (G.1 + off t)), none, some (.int x3), some (.int x4)] [] σ rV (X1_keepRolls_11 t s n x3 x4 σ) := by
  intro n
  induction n with
  | zero =>
    intro x3 x4 σ
    exact JO_none
  | succ n ih =>
    intro x3 x4 σ
    rw [X1_keepRolls_11]
    refine JO_iload (pc := 11) dX1_keepRolls_11 rfl ?_
    refine JO_iload_n (pc := 13) dX1_keepRolls_13 rfl ?_
    refine JO_icmp_ge (pc := 14) (tgt := 54) dX1_keepRolls_14 (by decide) ?_ ?_
    · exact JO_retv (pc := 54) rfl dX1_keepRolls_54
    · refine JO_aload_n (pc := 17) dX1_keepRolls_17 rfl ?_
      refine JO_getR (pc := 18) fl_X1_28 rfl fkX1_rolls dX1_keepRolls_18 ?_
      refine JO_iload (pc := 21) dX1_keepRolls_21 rfl ?_
      refine JO_aload_n (pc := 23) dX1_keepRolls_23 rfl ?_
      refine JO_getR (pc := 24) fl_X1_12 rfl fkX1_clock dX1_keepRolls_24 ?_
      refine JO_aload_n (pc := 27) dX1_keepRolls_27 rfl ?_
      refine JO_aload_n (pc := 28) dX1_keepRolls_28 rfl ?_
      refine JO_getR (pc := 29) fl_X1_21 rfl fkX1_trial dX1_keepRolls_29 ?_
      refine JO_callVi (pc := 32) [.ref (G.1 + off t), .ref (G.1 + off 48)] lk_X1_122 rfl (ci := 0) rfl (shClock (by unfold isClock; decide)) (w_X0_call G d 44 t 48 (by unfold isClock; decide) ht (by unfold isState; decide) σ) rfl rfl (Nat.le_of_ble_eq_true rfl) dX1_keepRolls_32 (fun r3 => ?_)
      refine JO_iast (pc := 35) akX1_rolls dX1_keepRolls_35 (fun σ4 => ?_)
      refine JO_aload_n (pc := 36) dX1_keepRolls_36 rfl ?_
      refine JO_getR (pc := 37) fl_X1_12 rfl fkX1_clock dX1_keepRolls_37 ?_
      refine JO_aload_n (pc := 40) dX1_keepRolls_40 rfl ?_
      refine JO_aload_n (pc := 41) dX1_keepRolls_41 rfl ?_
      refine JO_getR (pc := 42) fl_X1_21 rfl fkX1_trial dX1_keepRolls_42 ?_
      refine JO_callVv (pc := 45) [.ref (G.1 + off t), .ref (G.1 + off 48)] lk_X1_125 rfl (ci := 0) rfl (shClock (by unfold isClock; decide)) (w_X0_turn G d 44 t 48 (by unfold isClock; decide) ht (by unfold isState; decide) σ4) rfl rfl (Nat.le_of_ble_eq_true rfl) dX1_keepRolls_45 (fun σ5 => ?_)
      refine JO_inc (pc := 48) (b := 1) (L' := fun v6 => [some (.ref (G.1 + off 43)), some (.ref (G.1 + off t)), none, some (.int x3), some (.int v6)]) dX1_keepRolls_48 rfl rfl (by decide) rfl (fun _ => rfl) (fun v6 => ?_)
      refine JO_goto (pc := 51) (tgt := 11) dX1_keepRolls_51 (by decide) ?_
      exact JO_sub (l_sub_some (l_sub_some (l_sub_none (l_sub_some (l_sub_some (l_sub_nil)))))) (ih x3 v6 σ5)
set_option maxHeartbeats 4000000 in
set_option maxRecDepth 100000 in
theorem w_X1_keepRolls (G : JG) (d : Nat) (t : Nat) (s : Nat) (ht : isTown t) (hs : isState s) (x3 : Int32) (σ : Mem) : JS G mX1_keepRolls (d + 3) [.ref (G.1 + off 43), .ref (G.1 + off t), .ref (G.1 + off s), .int x3] σ rV (X1_keepRolls t s x3 σ) := by
  refine JS_of 1 (by decide +kernel) (Nat.le_of_ble_eq_true rfl) (L := [some (.ref (G.1 + off 43)), some (.ref (G.1 + off t)), some (.ref (G.1 + off s)), some (.int x3), none]) rfl ?_
  unfold X1_keepRolls
  refine JO_aload_n (pc := 0) dX1_keepRolls_0 rfl ?_
  refine JO_getR (pc := 1) fl_X1_21 rfl fkX1_trial dX1_keepRolls_1 ?_
  refine JO_aload_n (pc := 4) dX1_keepRolls_4 rfl ?_
  refine JO_callVv (pc := 5) [.ref (G.1 + off s)] lk_X1_42 rfl (ci := 7) rfl (shState (by unfold isState; decide)) (w_X7_copy G (d + 1) 48 s (by unfold isState; decide) hs σ) rfl rfl (Nat.le_of_ble_eq_true rfl) dX1_keepRolls_5 (fun σ1 => ?_)
  refine JO_iconst (pc := 8) (a := 0) dX1_keepRolls_8 (by decide) ?_
  refine JO_nm (fun v2 => ?_)
  refine JO_istore (pc := 9) (L' := [some (.ref (G.1 + off 43)), some (.ref (G.1 + off t)), some (.ref (G.1 + off s)), some (.int x3), some (.int v2)]) dX1_keepRolls_9 rfl rfl rfl ?_
  exact JO_sub (l_sub_some (l_sub_some (l_sub_none (l_sub_some (l_sub_some (l_sub_nil)))))) (w_X1_keepRolls_11 G d t s ht hs fu x3 v2 σ1)
set_option maxHeartbeats 4000000 in
set_option maxRecDepth 100000 in
theorem w_X1_hangsOnCoins_80 (G : JG) (d : Nat) (t : Nat) (s : Nat) (ht : isTown t) (hs : isState s) (k3 : Int32 → Int32 → Mem → Option (Int32 × Mem)) (hk3 : ∀ (x3 : Int32) (x4 : Int32) (σ : Mem), JO G mX1_hangsOnCoins (d + 1) 3 [none, some (.ref (G.1 + off t)), some (.ref (G.1 + off s)), some (.int x3), some (.int x4), none] [] σ rI (k3 x3 x4 σ)) : ∀ (x3 : Int32) (x4 : Int32) (σ : Mem), JO G mX1_hangsOnCoins (d + 1) 80 [none, some (.ref (G.1 + off t)), some (.ref (G.1 + off s)), some (.int x3), some (.int x4), none] [] σ rI (X1_hangsOnCoins_80 t s k3 x3 x4 σ) := by
  intro x3 x4 σ
  unfold X1_hangsOnCoins_80
  refine JO_inc (pc := 80) (b := 1) (L' := fun v3 => [none, some (.ref (G.1 + off t)), some (.ref (G.1 + off s)), some (.int x3), some (.int v3), none]) dX1_hangsOnCoins_80 rfl rfl (by decide) rfl (fun _ => rfl) (fun v3 => ?_)
  refine JO_goto (pc := 83) (tgt := 3) dX1_hangsOnCoins_83 (by decide) ?_
  exact JO_sub (l_sub_none (l_sub_some (l_sub_some (l_sub_some (l_sub_some (l_sub_none (l_sub_nil))))))) (hk3 x3 v3 σ)
set_option maxHeartbeats 4000000 in
set_option maxRecDepth 100000 in
theorem w_X1_hangsOnCoins_38 (G : JG) (d : Nat) (t : Nat) (s : Nat) (ht : isTown t) (hs : isState s) (k39 : Int32 → Int32 → Int32 → Mem → Option (Int32 × Mem)) (hk39 : ∀ (x3 : Int32) (x4 : Int32) (s0 : Int32) (σ : Mem), JO G mX1_hangsOnCoins (d + 1) 39 [none, some (.ref (G.1 + off t)), some (.ref (G.1 + off s)), some (.int x3), some (.int x4), none] [.int s0] σ rI (k39 x3 x4 s0 σ)) : ∀ (x3 : Int32) (x4 : Int32) (σ : Mem), JO G mX1_hangsOnCoins (d + 1) 38 [none, some (.ref (G.1 + off t)), some (.ref (G.1 + off s)), some (.int x3), some (.int x4), none] [] σ rI (X1_hangsOnCoins_38 t s k39 x3 x4 σ) := by
  intro x3 x4 σ
  unfold X1_hangsOnCoins_38
  refine JO_iconst (pc := 38) (a := 0) dX1_hangsOnCoins_38 (by decide) ?_
  exact JO_sub (l_sub_none (l_sub_some (l_sub_some (l_sub_some (l_sub_some (l_sub_none (l_sub_nil))))))) (hk39 x3 x4 0 σ)
set_option maxHeartbeats 4000000 in
set_option maxRecDepth 100000 in
theorem w_X1_hangsOnCoins_39 (G : JG) (d : Nat) (t : Nat) (s : Nat) (ht : isTown t) (hs : isState s) (k3 : Int32 → Int32 → Mem → Option (Int32 × Mem)) (hk3 : ∀ (x3 : Int32) (x4 : Int32) (σ : Mem), JO G mX1_hangsOnCoins (d + 1) 3 [none, some (.ref (G.1 + off t)), some (.ref (G.1 + off s)), some (.int x3), some (.int x4), none] [] σ rI (k3 x3 x4 σ)) : ∀ (x3 : Int32) (x4 : Int32) (s0 : Int32) (σ : Mem), JO G mX1_hangsOnCoins (d + 1) 39 [none, some (.ref (G.1 + off t)), some (.ref (G.1 + off s)), some (.int x3), some (.int x4), none] [.int s0] σ rI (X1_hangsOnCoins_39 t s k3 x3 x4 s0 σ) := by
  intro x3 x4 s0 σ
  unfold X1_hangsOnCoins_39
  refine JO_istore (pc := 39) (L' := [none, some (.ref (G.1 + off t)), some (.ref (G.1 + off s)), some (.int x3), some (.int x4), some (.int s0)]) dX1_hangsOnCoins_39 rfl rfl rfl ?_
  refine JO_iload (pc := 41) dX1_hangsOnCoins_41 rfl ?_
  refine JO_if_eq (pc := 43) (tgt := 80) dX1_hangsOnCoins_43 (by decide) ?_ ?_
  · exact JO_sub (l_sub_none (l_sub_some (l_sub_some (l_sub_some (l_sub_some (l_sub_none (l_sub_nil))))))) (w_X1_hangsOnCoins_80 G d t s ht hs _ (hk3) x3 x4 σ)
  · refine JO_aload_n (pc := 46) dX1_hangsOnCoins_46 rfl ?_
    refine JO_getR (pc := 47) fl_X1_64 rfl (fkState_aim hs) dX1_hangsOnCoins_47 ?_
    refine JO_iload (pc := 50) dX1_hangsOnCoins_50 rfl ?_
    refine JO_iald (pc := 52) (akState_aim hs) dX1_hangsOnCoins_52 ?_
    refine JO_iconst (pc := 53) (a := (-1)) dX1_hangsOnCoins_53 (by decide) ?_
    refine JO_icmp_eq (pc := 54) (tgt := 80) dX1_hangsOnCoins_54 (by decide) ?_ ?_
    · exact JO_sub (l_sub_none (l_sub_some (l_sub_some (l_sub_some (l_sub_some (l_sub_none (l_sub_nil))))))) (w_X1_hangsOnCoins_80 G d t s ht hs _ (hk3) x3 x4 σ)
    · refine JO_aload_n (pc := 57) dX1_hangsOnCoins_57 rfl ?_
      refine JO_getR (pc := 58) fl_X1_76 rfl (fkState_stand hs) dX1_hangsOnCoins_58 ?_
      refine JO_iload (pc := 61) dX1_hangsOnCoins_61 rfl ?_
      refine JO_iald (pc := 63) (akState_stand hs) dX1_hangsOnCoins_63 ?_
      refine JO_aload_n (pc := 64) dX1_hangsOnCoins_64 rfl ?_
      refine JO_getR (pc := 65) fl_X1_64 rfl (fkState_aim hs) dX1_hangsOnCoins_65 ?_
      refine JO_iload (pc := 68) dX1_hangsOnCoins_68 rfl ?_
      refine JO_iald (pc := 70) (akState_aim hs) dX1_hangsOnCoins_70 ?_
      refine JO_callSNi (pc := 71) [.int (σ.1 (s + 3) x4.toNatClampNeg), .int (σ.1 (s + 2) x4.toNatClampNeg)] lk_X1_79 rfl (w_X11_cell G d (σ.1 (s + 3) x4.toNatClampNeg) (σ.1 (s + 2) x4.toNatClampNeg) σ) rfl rfl (Nat.le_of_ble_eq_true rfl) dX1_hangsOnCoins_71 (fun r2 => ?_)
      refine JO_iload_n (pc := 74) dX1_hangsOnCoins_74 rfl ?_
      refine JO_icmp_ne (pc := 75) (tgt := 80) dX1_hangsOnCoins_75 (by decide) ?_ ?_
      · exact JO_sub (l_sub_none (l_sub_some (l_sub_some (l_sub_some (l_sub_some (l_sub_none (l_sub_nil))))))) (w_X1_hangsOnCoins_80 G d t s ht hs _ (hk3) x3 x4 r2.2)
      · refine JO_iconst (pc := 78) (a := 1) dX1_hangsOnCoins_78 (by decide) ?_
        exact JO_retzc (pc := 79) (by decide) rfl dX1_hangsOnCoins_79
set_option maxHeartbeats 4000000 in
set_option maxRecDepth 100000 in
theorem w_X1_hangsOnCoins_3 (G : JG) (d : Nat) (t : Nat) (s : Nat) (ht : isTown t) (hs : isState s) : ∀ (n : Nat) (x3 : Int32) (x4 : Int32) (σ : Mem), JO G mX1_hangsOnCoins (d + 1) 3 [none, some (.ref (G.1 + off t)), some (.ref (G.1 + off s)), some (.int x3), some (.int x4), none] [] σ rI (X1_hangsOnCoins_3 t s n x3 x4 σ) := by
  intro n
  induction n with
  | zero =>
    intro x3 x4 σ
    exact JO_none
  | succ n ih =>
    intro x3 x4 σ
    rw [X1_hangsOnCoins_3]
    refine JO_iload (pc := 3) dX1_hangsOnCoins_3 rfl ?_
    refine JO_aload_n (pc := 5) dX1_hangsOnCoins_5 rfl ?_
    refine JO_getI (pc := 6) fl_X1_71 rfl (fkTown_people ht) dX1_hangsOnCoins_6 ?_
    refine JO_icmp_ge (pc := 9) (tgt := 86) dX1_hangsOnCoins_9 (by decide) ?_ ?_
    · refine JO_iconst (pc := 86) (a := 0) dX1_hangsOnCoins_86 (by decide) ?_
      exact JO_retzc (pc := 87) (by decide) rfl dX1_hangsOnCoins_87
    · refine JO_aload_n (pc := 12) dX1_hangsOnCoins_12 rfl ?_
      refine JO_getR (pc := 13) fl_X1_76 rfl (fkState_stand hs) dX1_hangsOnCoins_13 ?_
      refine JO_iload (pc := 16) dX1_hangsOnCoins_16 rfl ?_
      refine JO_iald (pc := 18) (akState_stand hs) dX1_hangsOnCoins_18 ?_
      refine JO_iload (pc := 19) dX1_hangsOnCoins_19 rfl ?_
      refine JO_icmp_eq (pc := 21) (tgt := 38) dX1_hangsOnCoins_21 (by decide) ?_ ?_
      · exact JO_sub (l_sub_none (l_sub_some (l_sub_some (l_sub_some (l_sub_some (l_sub_none (l_sub_nil))))))) (w_X1_hangsOnCoins_38 G d t s ht hs _ (w_X1_hangsOnCoins_39 G d t s ht hs _ (ih)) x3 x4 σ)
      · refine JO_aload_n (pc := 24) dX1_hangsOnCoins_24 rfl ?_
        refine JO_getR (pc := 25) fl_X1_139 rfl (fkTown_price ht) dX1_hangsOnCoins_25 ?_
        refine JO_iload (pc := 28) dX1_hangsOnCoins_28 rfl ?_
        refine JO_iald (pc := 30) (akTown_price ht) dX1_hangsOnCoins_30 ?_
        refine JO_if_le (pc := 31) (tgt := 38) dX1_hangsOnCoins_31 (by decide) ?_ ?_
        · exact JO_sub (l_sub_none (l_sub_some (l_sub_some (l_sub_some (l_sub_some (l_sub_none (l_sub_nil))))))) (w_X1_hangsOnCoins_38 G d t s ht hs _ (w_X1_hangsOnCoins_39 G d t s ht hs _ (ih)) x3 x4 σ)
        · refine JO_iconst (pc := 34) (a := 1) dX1_hangsOnCoins_34 (by decide) ?_
          refine JO_goto (pc := 35) (tgt := 39) dX1_hangsOnCoins_35 (by decide) ?_
          exact JO_sub (l_sub_none (l_sub_some (l_sub_some (l_sub_some (l_sub_some (l_sub_none (l_sub_nil))))))) (w_X1_hangsOnCoins_39 G d t s ht hs _ (ih) x3 x4 1 σ)
set_option maxHeartbeats 4000000 in
set_option maxRecDepth 100000 in
theorem w_X1_hangsOnCoins (G : JG) (d : Nat) (t : Nat) (s : Nat) (ht : isTown t) (hs : isState s) (x3 : Int32) (σ : Mem) : JS G mX1_hangsOnCoins (d + 1) [.ref (G.1 + off 43), .ref (G.1 + off t), .ref (G.1 + off s), .int x3] σ rI (X1_hangsOnCoins t s x3 σ) := by
  refine JS_of 2 (by decide +kernel) (Nat.le_of_ble_eq_true rfl) (L := [some (.ref (G.1 + off 43)), some (.ref (G.1 + off t)), some (.ref (G.1 + off s)), some (.int x3), none, none]) rfl ?_
  unfold X1_hangsOnCoins
  refine JO_iconst (pc := 0) (a := 0) dX1_hangsOnCoins_0 (by decide) ?_
  refine JO_nm (fun v1 => ?_)
  refine JO_istore (pc := 1) (L' := [some (.ref (G.1 + off 43)), some (.ref (G.1 + off t)), some (.ref (G.1 + off s)), some (.int x3), some (.int v1), none]) dX1_hangsOnCoins_1 rfl rfl rfl ?_
  exact JO_sub (l_sub_none (l_sub_some (l_sub_some (l_sub_some (l_sub_some (l_sub_none (l_sub_nil))))))) (w_X1_hangsOnCoins_3 G d t s ht hs fu x3 v1 σ)
set_option maxHeartbeats 4000000 in
set_option maxRecDepth 100000 in
theorem w_X1_keepStart (G : JG) (d : Nat) (t : Nat) (s : Nat) (ht : isTown t) (hs : isState s) (x3 : Int32) (σ : Mem) : JS G mX1_keepStart (d + 2) [.ref (G.1 + off 43), .ref (G.1 + off t), .ref (G.1 + off s), .int x3] σ rV (X1_keepStart t s x3 σ) := by
  refine JS_of 0 (by decide +kernel) (Nat.le_of_ble_eq_true rfl) (L := [some (.ref (G.1 + off 43)), some (.ref (G.1 + off t)), some (.ref (G.1 + off s)), some (.int x3)]) rfl ?_
  unfold X1_keepStart
  refine JO_aload_n (pc := 0) dX1_keepStart_0 rfl ?_
  refine JO_getR (pc := 1) fl_X1_25 rfl fkX1_start dX1_keepStart_1 ?_
  refine JO_aload_n (pc := 4) dX1_keepStart_4 rfl ?_
  refine JO_callVv (pc := 5) [.ref (G.1 + off s)] lk_X1_42 rfl (ci := 7) rfl (shState (by unfold isState; decide)) (w_X7_copy G d 54 s (by unfold isState; decide) hs σ) rfl rfl (Nat.le_of_ble_eq_true rfl) dX1_keepStart_5 (fun σ1 => ?_)
  refine JO_aload_n (pc := 8) dX1_keepStart_8 rfl ?_
  refine JO_aload_n (pc := 9) dX1_keepStart_9 rfl ?_
  refine JO_aload_n (pc := 10) dX1_keepStart_10 rfl ?_
  refine JO_iload_n (pc := 11) dX1_keepStart_11 rfl ?_
  refine JO_callVi (pc := 12) [.ref (G.1 + off t), .ref (G.1 + off s), .int x3] lk_X1_129 rfl (ci := 1) rfl shX1 (w_X1_hangsOnCoins G d t s ht hs x3 σ1) rfl rfl (Nat.le_of_ble_eq_true rfl) dX1_keepStart_12 (fun r2 => ?_)
  refine JO_if_ne (pc := 15) (tgt := 44) dX1_keepStart_15 (by decide) ?_ ?_
  · exact JO_retv (pc := 44) rfl dX1_keepStart_44
  · refine JO_aload_n (pc := 18) dX1_keepStart_18 rfl ?_
    refine JO_getR (pc := 19) fl_X1_25 rfl fkX1_start dX1_keepStart_19 ?_
    refine JO_getR (pc := 22) fl_X1_39 rfl (fkState_debt (by unfold isState; decide)) dX1_keepStart_22 ?_
    refine JO_iconst (pc := 25) (a := 0) dX1_keepStart_25 (by decide) ?_
    refine JO_callSv (pc := 26) [.ref (G.1 + off 59), .int 0] lk_X1_133 rfl (w_J7_fill_53178 G (d + 1) 59 36 (akState_debt (by unfold isState; decide)) 0 r2.2) rfl rfl (Nat.le_of_ble_eq_true rfl) dX1_keepStart_26 (fun σ3 => ?_)
    refine JO_aload_n (pc := 29) dX1_keepStart_29 rfl ?_
    refine JO_getR (pc := 30) fl_X1_25 rfl fkX1_start dX1_keepStart_30 ?_
    refine JO_getR (pc := 33) fl_X1_39 rfl (fkState_debt (by unfold isState; decide)) dX1_keepStart_33 ?_
    refine JO_iload_n (pc := 36) dX1_keepStart_36 rfl ?_
    refine JO_aload_n (pc := 37) dX1_keepStart_37 rfl ?_
    refine JO_getR (pc := 38) fl_X1_39 rfl (fkState_debt hs) dX1_keepStart_38 ?_
    refine JO_iload_n (pc := 41) dX1_keepStart_41 rfl ?_
    refine JO_iald (pc := 42) (akState_debt hs) dX1_keepStart_42 ?_
    refine JO_iast (pc := 43) (akState_debt (by unfold isState; decide)) dX1_keepStart_43 (fun σ4 => ?_)
    exact JO_retv (pc := 44) rfl dX1_keepStart_44
set_option maxHeartbeats 4000000 in
set_option maxRecDepth 100000 in
theorem w_X2_numberTold (G : JG) (d : Nat) (o : Nat) (ho : isForm o) (x1 : Int32) (σ : Mem) : JS G mX2_numberTold d [.ref (G.1 + off o), .int x1] σ rI (X2_numberTold o x1 σ) := by
  refine JS_of 0 (by decide +kernel) (Nat.le_of_ble_eq_true rfl) (L := [some (.ref (G.1 + off o)), some (.int x1)]) rfl ?_
  unfold X2_numberTold
  refine JO_aload_n (pc := 0) dX2_numberTold_0 rfl ?_
  refine JO_getR (pc := 1) fl_X2_15 rfl (fkForm_operand ho) dX2_numberTold_1 ?_
  refine JO_aload_n (pc := 4) dX2_numberTold_4 rfl ?_
  refine JO_getR (pc := 5) fl_X2_21 rfl (fkForm_numberAt ho) dX2_numberTold_5 ?_
  refine JO_iload_n (pc := 8) dX2_numberTold_8 rfl ?_
  refine JO_iald (pc := 9) (akForm_numberAt ho) dX2_numberTold_9 ?_
  refine JO_iald (pc := 10) (akForm_operand ho) dX2_numberTold_10 ?_
  exact JO_reti (pc := 11) rfl dX2_numberTold_11
set_option maxHeartbeats 4000000 in
set_option maxRecDepth 100000 in
theorem w_X2_tellOtherwise (G : JG) (d : Nat) (o : Nat) (ho : isForm o) (x1 : Int32) (x2 : Int32) (σ : Mem) : JS G mX2_tellOtherwise d [.ref (G.1 + off o), .int x1, .int x2] σ rV (X2_tellOtherwise o x1 x2 σ) := by
  refine JS_of 0 (by decide +kernel) (Nat.le_of_ble_eq_true rfl) (L := [some (.ref (G.1 + off o)), some (.int x1), some (.int x2)]) rfl ?_
  unfold X2_tellOtherwise
  refine JO_aload_n (pc := 0) dX2_tellOtherwise_0 rfl ?_
  refine JO_getR (pc := 1) fl_X2_15 rfl (fkForm_operand ho) dX2_tellOtherwise_1 ?_
  refine JO_aload_n (pc := 4) dX2_tellOtherwise_4 rfl ?_
  refine JO_getR (pc := 5) fl_X2_21 rfl (fkForm_numberAt ho) dX2_tellOtherwise_5 ?_
  refine JO_iload_n (pc := 8) dX2_tellOtherwise_8 rfl ?_
  refine JO_iald (pc := 9) (akForm_numberAt ho) dX2_tellOtherwise_9 ?_
  refine JO_iload_n (pc := 10) dX2_tellOtherwise_10 rfl ?_
  refine JO_iast (pc := 11) (akForm_operand ho) dX2_tellOtherwise_11 (fun σ1 => ?_)
  exact JO_retv (pc := 12) rfl dX2_tellOtherwise_12
set_option maxHeartbeats 4000000 in
set_option maxRecDepth 100000 in
theorem w_X1_isFreed_61 (G : JG) (d : Nat) (t : Nat) (ht : isTown t) (k14 : Int32 → Int32 → Int32 → Mem → Option (Int32 × Mem)) (hk14 : ∀ (x2 : Int32) (x3 : Int32) (x4 : Int32) (σ : Mem), JO G mX1_isFreed (d + 3) 14 [some (.ref (G.1 + off 43)), some (.ref (G.1 + off t)), some (.int x2), some (.int x3), some (.int x4)] [] σ rI (k14 x2 x3 x4 σ)) : ∀ (x2 : Int32) (x3 : Int32) (x4 : Int32) (σ : Mem), JO G mX1_isFreed (d + 3) 61 [some (.ref (G.1 + off 43)), some (.ref (G.1 + off t)), some (.int x2), some (.int x3), some (.int x4)] [] σ rI (X1_isFreed_61 t k14 x2 x3 x4 σ) := by
  intro x2 x3 x4 σ
  unfold X1_isFreed_61
  refine JO_aload_n (pc := 61) dX1_isFreed_61 rfl ?_
  refine JO_getR (pc := 62) fl_X1_12 rfl fkX1_clock dX1_isFreed_62 ?_
  refine JO_aload_n (pc := 65) dX1_isFreed_65 rfl ?_
  refine JO_aload_n (pc := 66) dX1_isFreed_66 rfl ?_
  refine JO_getR (pc := 67) fl_X1_21 rfl fkX1_trial dX1_isFreed_67 ?_
  refine JO_callVv (pc := 70) [.ref (G.1 + off t), .ref (G.1 + off 48)] lk_X1_125 rfl (ci := 0) rfl (shClock (by unfold isClock; decide)) (w_X0_turn G d 44 t 48 (by unfold isClock; decide) ht (by unfold isState; decide) σ) rfl rfl (Nat.le_of_ble_eq_true rfl) dX1_isFreed_70 (fun σ4 => ?_)
  refine JO_inc (pc := 73) (b := 1) (L' := fun v5 => [some (.ref (G.1 + off 43)), some (.ref (G.1 + off t)), some (.int x2), some (.int x3), some (.int v5)]) dX1_isFreed_73 rfl rfl (by decide) rfl (fun _ => rfl) (fun v5 => ?_)
  refine JO_goto (pc := 76) (tgt := 14) dX1_isFreed_76 (by decide) ?_
  exact JO_sub (l_sub_some (l_sub_some (l_sub_some (l_sub_some (l_sub_some (l_sub_nil)))))) (hk14 x2 x3 v5 σ4)
set_option maxHeartbeats 4000000 in
set_option maxRecDepth 100000 in
theorem w_X1_isFreed_79 (G : JG) (d : Nat) (t : Nat) (ht : isTown t) : ∀ (x2 : Int32) (σ : Mem), JO G mX1_isFreed (d + 3) 79 [some (.ref (G.1 + off 43)), none, some (.int x2), none, none] [] σ rI (X1_isFreed_79 t x2 σ) := by
  intro x2 σ
  unfold X1_isFreed_79
  refine JO_aload_n (pc := 79) dX1_isFreed_79 rfl ?_
  refine JO_getR (pc := 80) fl_X1_21 rfl fkX1_trial dX1_isFreed_80 ?_
  refine JO_getR (pc := 83) fl_X1_39 rfl (fkState_debt (by unfold isState; decide)) dX1_isFreed_83 ?_
  refine JO_iload_n (pc := 86) dX1_isFreed_86 rfl ?_
  refine JO_iald (pc := 87) (akState_debt (by unfold isState; decide)) dX1_isFreed_87 ?_
  refine JO_if_ne (pc := 88) (tgt := 95) dX1_isFreed_88 (by decide) ?_ ?_
  · refine JO_iconst (pc := 95) (a := 0) dX1_isFreed_95 (by decide) ?_
    exact JO_retzc (pc := 96) (by decide) rfl dX1_isFreed_96
  · refine JO_iconst (pc := 91) (a := 1) dX1_isFreed_91 (by decide) ?_
    refine JO_goto (pc := 92) (tgt := 96) dX1_isFreed_92 (by decide) ?_
    exact JO_retzc (pc := 96) (by decide) rfl dX1_isFreed_96
set_option maxHeartbeats 4000000 in
set_option maxRecDepth 100000 in
theorem w_X1_isFreed_14 (G : JG) (d : Nat) (t : Nat) (ht : isTown t) : ∀ (n : Nat) (x2 : Int32) (x3 : Int32) (x4 : Int32) (σ : Mem), JO G mX1_isFreed (d + 3) 14 [some (.ref (G.1 + off 43)), some (.ref (G.1 + off t)), some (.int x2), some (.int x3), some (.int x4)] [] σ rI (X1_isFreed_14 t n x2 x3 x4 σ) := by
  intro n
  induction n with
  | zero =>
    intro x2 x3 x4 σ
    exact JO_none
  | succ n ih =>
    intro x2 x3 x4 σ
    rw [X1_isFreed_14]
    refine JO_iload (pc := 14) dX1_isFreed_14 rfl ?_
    refine JO_iload_n (pc := 16) dX1_isFreed_16 rfl ?_
    refine JO_icmp_ge (pc := 17) (tgt := 79) dX1_isFreed_17 (by decide) ?_ ?_
    · exact JO_sub (l_sub_some (l_sub_none (l_sub_some (l_sub_none (l_sub_none (l_sub_nil)))))) (w_X1_isFreed_79 G d t ht x2 σ)
    · refine JO_aload_n (pc := 20) dX1_isFreed_20 rfl ?_
      refine JO_getR (pc := 21) fl_X1_21 rfl fkX1_trial dX1_isFreed_21 ?_
      refine JO_getR (pc := 24) fl_X1_39 rfl (fkState_debt (by unfold isState; decide)) dX1_isFreed_24 ?_
      refine JO_iload_n (pc := 27) dX1_isFreed_27 rfl ?_
      refine JO_iald (pc := 28) (akState_debt (by unfold isState; decide)) dX1_isFreed_28 ?_
      refine JO_if_le (pc := 29) (tgt := 79) dX1_isFreed_29 (by decide) ?_ ?_
      · exact JO_sub (l_sub_some (l_sub_none (l_sub_some (l_sub_none (l_sub_none (l_sub_nil)))))) (w_X1_isFreed_79 G d t ht x2 σ)
      · refine JO_aload_n (pc := 32) dX1_isFreed_32 rfl ?_
        refine JO_getR (pc := 33) fl_X1_28 rfl fkX1_rolls dX1_isFreed_33 ?_
        refine JO_iload (pc := 36) dX1_isFreed_36 rfl ?_
        refine JO_iald (pc := 38) akX1_rolls dX1_isFreed_38 ?_
        refine JO_if_eq (pc := 39) (tgt := 61) dX1_isFreed_39 (by decide) ?_ ?_
        · exact JO_sub (l_sub_some (l_sub_some (l_sub_some (l_sub_some (l_sub_some (l_sub_nil)))))) (w_X1_isFreed_61 G d t ht _ (ih) x2 x3 x4 σ)
        · refine JO_aload_n (pc := 42) dX1_isFreed_42 rfl ?_
          refine JO_getR (pc := 43) fl_X1_12 rfl fkX1_clock dX1_isFreed_43 ?_
          refine JO_aload_n (pc := 46) dX1_isFreed_46 rfl ?_
          refine JO_aload_n (pc := 47) dX1_isFreed_47 rfl ?_
          refine JO_getR (pc := 48) fl_X1_21 rfl fkX1_trial dX1_isFreed_48 ?_
          refine JO_aload_n (pc := 51) dX1_isFreed_51 rfl ?_
          refine JO_getR (pc := 52) fl_X1_28 rfl fkX1_rolls dX1_isFreed_52 ?_
          refine JO_iload (pc := 55) dX1_isFreed_55 rfl ?_
          refine JO_iald (pc := 57) akX1_rolls dX1_isFreed_57 ?_
          refine JO_callVv (pc := 58) [.ref (G.1 + off t), .ref (G.1 + off 48), .int (σ.1 60 x4.toNatClampNeg)] lk_X1_142 rfl (ci := 0) rfl (shClock (by unfold isClock; decide)) (w_X0_settle G d 44 t 48 (by unfold isClock; decide) ht (by unfold isState; decide) (σ.1 60 x4.toNatClampNeg) σ) rfl rfl (Nat.le_of_ble_eq_true rfl) dX1_isFreed_58 (fun σ3 => ?_)
          exact JO_sub (l_sub_some (l_sub_some (l_sub_some (l_sub_some (l_sub_some (l_sub_nil)))))) (w_X1_isFreed_61 G d t ht _ (ih) x2 x3 x4 σ3)
set_option maxHeartbeats 4000000 in
set_option maxRecDepth 100000 in
theorem w_X1_isFreed (G : JG) (d : Nat) (t : Nat) (ht : isTown t) (x2 : Int32) (x3 : Int32) (σ : Mem) : JS G mX1_isFreed (d + 3) [.ref (G.1 + off 43), .ref (G.1 + off t), .int x2, .int x3] σ rI (X1_isFreed t x2 x3 σ) := by
  refine JS_of 1 (by decide +kernel) (Nat.le_of_ble_eq_true rfl) (L := [some (.ref (G.1 + off 43)), some (.ref (G.1 + off t)), some (.int x2), some (.int x3), none]) rfl ?_
  unfold X1_isFreed
  refine JO_aload_n (pc := 0) dX1_isFreed_0 rfl ?_
  refine JO_getR (pc := 1) fl_X1_21 rfl fkX1_trial dX1_isFreed_1 ?_
  refine JO_aload_n (pc := 4) dX1_isFreed_4 rfl ?_
  refine JO_getR (pc := 5) fl_X1_25 rfl fkX1_start dX1_isFreed_5 ?_
  refine JO_callVv (pc := 8) [.ref (G.1 + off 54)] lk_X1_42 rfl (ci := 7) rfl (shState (by unfold isState; decide)) (w_X7_copy G (d + 1) 48 54 (by unfold isState; decide) (by unfold isState; decide) σ) rfl rfl (Nat.le_of_ble_eq_true rfl) dX1_isFreed_8 (fun σ1 => ?_)
  refine JO_iconst (pc := 11) (a := 0) dX1_isFreed_11 (by decide) ?_
  refine JO_nm (fun v2 => ?_)
  refine JO_istore (pc := 12) (L' := [some (.ref (G.1 + off 43)), some (.ref (G.1 + off t)), some (.int x2), some (.int x3), some (.int v2)]) dX1_isFreed_12 rfl rfl rfl ?_
  exact JO_sub (l_sub_some (l_sub_some (l_sub_some (l_sub_some (l_sub_some (l_sub_nil)))))) (w_X1_isFreed_14 G d t ht fu x2 x3 v2 σ1)
set_option maxHeartbeats 4000000 in
set_option maxRecDepth 100000 in
theorem w_X1_countWords_100 (G : JG) (d : Nat) (t : Nat) (s : Nat) (ht : isTown t) (hs : isState s) (k103 : Int32 → Int32 → Int32 → Int32 → Int32 → Int32 → Mem → Option (Int32 × Mem)) (hk103 : ∀ (x3 : Int32) (x4 : Int32) (x6 : Int32) (x7 : Int32) (x8 : Int32) (x9 : Int32) (σ : Mem), JO G mX1_countWords (d + 4) 103 [some (.ref (G.1 + off 43)), some (.ref (G.1 + off t)), none, some (.int x3), some (.int x4), some (.ref (G.1 + off (t + 9))), some (.int x6), some (.int x7), some (.int x8), some (.int x9)] [] σ rI (k103 x3 x4 x6 x7 x8 x9 σ)) : ∀ (x3 : Int32) (x4 : Int32) (x6 : Int32) (x7 : Int32) (x8 : Int32) (x9 : Int32) (σ : Mem), JO G mX1_countWords (d + 4) 100 [some (.ref (G.1 + off 43)), some (.ref (G.1 + off t)), none, some (.int x3), some (.int x4), some (.ref (G.1 + off (t + 9))), some (.int x6), some (.int x7), some (.int x8), some (.int x9)] [] σ rI (X1_countWords_100 t s k103 x3 x4 x6 x7 x8 x9 σ) := by
  intro x3 x4 x6 x7 x8 x9 σ
  unfold X1_countWords_100
  refine JO_inc (pc := 100) (b := 1) (L' := fun v15 => [some (.ref (G.1 + off 43)), some (.ref (G.1 + off t)), none, some (.int x3), some (.int x4), some (.ref (G.1 + off (t + 9))), some (.int v15), some (.int x7), some (.int x8), some (.int x9)]) dX1_countWords_100 rfl rfl (by decide) rfl (fun _ => rfl) (fun v15 => ?_)
  exact JO_sub (l_sub_some (l_sub_some (l_sub_none (l_sub_some (l_sub_some (l_sub_some (l_sub_some (l_sub_some (l_sub_some (l_sub_some (l_sub_nil))))))))))) (hk103 x3 x4 v15 x7 x8 x9 σ)
set_option maxHeartbeats 4000000 in
set_option maxRecDepth 100000 in
theorem w_X1_countWords_103 (G : JG) (d : Nat) (t : Nat) (s : Nat) (ht : isTown t) (hs : isState s) (k49 : Int32 → Int32 → Int32 → Int32 → Int32 → Int32 → Mem → Option (Int32 × Mem)) (hk49 : ∀ (x3 : Int32) (x4 : Int32) (x6 : Int32) (x7 : Int32) (x8 : Int32) (x9 : Int32) (σ : Mem), JO G mX1_countWords (d + 4) 49 [some (.ref (G.1 + off 43)), some (.ref (G.1 + off t)), none, some (.int x3), some (.int x4), some (.ref (G.1 + off (t + 9))), some (.int x6), some (.int x7), some (.int x8), some (.int x9)] [] σ rI (k49 x3 x4 x6 x7 x8 x9 σ)) : ∀ (x3 : Int32) (x4 : Int32) (x6 : Int32) (x7 : Int32) (x8 : Int32) (x9 : Int32) (σ : Mem), JO G mX1_countWords (d + 4) 103 [some (.ref (G.1 + off 43)), some (.ref (G.1 + off t)), none, some (.int x3), some (.int x4), some (.ref (G.1 + off (t + 9))), some (.int x6), some (.int x7), some (.int x8), some (.int x9)] [] σ rI (X1_countWords_103 t s k49 x3 x4 x6 x7 x8 x9 σ) := by
  intro x3 x4 x6 x7 x8 x9 σ
  unfold X1_countWords_103
  refine JO_inc (pc := 103) (b := 1) (L' := fun v14 => [some (.ref (G.1 + off 43)), some (.ref (G.1 + off t)), none, some (.int x3), some (.int x4), some (.ref (G.1 + off (t + 9))), some (.int x6), some (.int x7), some (.int x8), some (.int v14)]) dX1_countWords_103 rfl rfl (by decide) rfl (fun _ => rfl) (fun v14 => ?_)
  refine JO_goto (pc := 106) (tgt := 49) dX1_countWords_106 (by decide) ?_
  exact JO_sub (l_sub_some (l_sub_some (l_sub_none (l_sub_some (l_sub_some (l_sub_some (l_sub_some (l_sub_some (l_sub_some (l_sub_some (l_sub_nil))))))))))) (hk49 x3 x4 x6 x7 x8 v14 σ)
set_option maxHeartbeats 4000000 in
set_option maxRecDepth 100000 in
theorem w_X1_countWords_49 (G : JG) (d : Nat) (t : Nat) (s : Nat) (ht : isTown t) (hs : isState s) (k27 : Int32 → Int32 → Int32 → Int32 → Mem → Option (Int32 × Mem)) (hk27 : ∀ (x3 : Int32) (x4 : Int32) (x6 : Int32) (x7 : Int32) (σ : Mem), JO G mX1_countWords (d + 4) 27 [some (.ref (G.1 + off 43)), some (.ref (G.1 + off t)), none, some (.int x3), some (.int x4), some (.ref (G.1 + off (t + 9))), some (.int x6), some (.int x7), none, none] [] σ rI (k27 x3 x4 x6 x7 σ)) : ∀ (n : Nat) (x3 : Int32) (x4 : Int32) (x6 : Int32) (x7 : Int32) (x8 : Int32) (x9 : Int32) (σ : Mem), JO G mX1_countWords (d + 4) 49 [some (.ref (G.1 + off 43)), some (.ref (G.1 + off t)), none, some (.int x3), some (.int x4), some (.ref (G.1 + off (t + 9))), some (.int x6), some (.int x7), some (.int x8), some (.int x9)] [] σ rI (X1_countWords_49 t s k27 n x3 x4 x6 x7 x8 x9 σ) := by
  intro n
  induction n with
  | zero =>
    intro x3 x4 x6 x7 x8 x9 σ
    exact JO_none
  | succ n ih =>
    intro x3 x4 x6 x7 x8 x9 σ
    rw [X1_countWords_49]
    refine JO_iload (pc := 49) dX1_countWords_49 rfl ?_
    refine JO_bipush (pc := 51) (a := 99) dX1_countWords_51 (by decide) ?_
    refine JO_icmp_gt (pc := 53) (tgt := 109) dX1_countWords_53 (by decide) ?_ ?_
    · refine JO_aload (pc := 109) dX1_countWords_109 rfl ?_
      refine JO_iload (pc := 111) dX1_countWords_111 rfl ?_
      refine JO_iload (pc := 113) dX1_countWords_113 rfl ?_
      refine JO_callVv (pc := 115) [.int x7, .int x8] lk_X1_114 rfl (ci := 2) rfl (shForm (inTown_law ht)) (w_X2_tellOtherwise G (d + 3) (t + 9) (inTown_law ht) x7 x8 σ) rfl rfl (Nat.le_of_ble_eq_true rfl) dX1_countWords_115 (fun σ8 => ?_)
      refine JO_inc (pc := 118) (b := 1) (L' := fun v9 => [some (.ref (G.1 + off 43)), some (.ref (G.1 + off t)), none, some (.int x3), some (.int x4), some (.ref (G.1 + off (t + 9))), some (.int x6), some (.int v9), some (.int x8), some (.int x9)]) dX1_countWords_118 rfl rfl (by decide) rfl (fun _ => rfl) (fun v9 => ?_)
      refine JO_goto (pc := 121) (tgt := 27) dX1_countWords_121 (by decide) ?_
      exact JO_sub (l_sub_some (l_sub_some (l_sub_none (l_sub_some (l_sub_some (l_sub_some (l_sub_some (l_sub_some (l_sub_none (l_sub_none (l_sub_nil))))))))))) (hk27 x3 x4 x6 v9 σ8)
    · refine JO_aload (pc := 56) dX1_countWords_56 rfl ?_
      refine JO_iload (pc := 58) dX1_countWords_58 rfl ?_
      refine JO_iload (pc := 60) dX1_countWords_60 rfl ?_
      refine JO_callVv (pc := 62) [.int x7, .int x9] lk_X1_114 rfl (ci := 2) rfl (shForm (inTown_law ht)) (w_X2_tellOtherwise G (d + 3) (t + 9) (inTown_law ht) x7 x9 σ) rfl rfl (Nat.le_of_ble_eq_true rfl) dX1_countWords_62 (fun σ10 => ?_)
      refine JO_iload (pc := 65) dX1_countWords_65 rfl ?_
      refine JO_iload (pc := 67) dX1_countWords_67 rfl ?_
      refine JO_icmp_eq (pc := 69) (tgt := 103) dX1_countWords_69 (by decide) ?_ ?_
      · exact JO_sub (l_sub_some (l_sub_some (l_sub_none (l_sub_some (l_sub_some (l_sub_some (l_sub_some (l_sub_some (l_sub_some (l_sub_some (l_sub_nil))))))))))) (w_X1_countWords_103 G d t s ht hs _ (ih) x3 x4 x6 x7 x8 x9 σ10)
      · refine JO_aload_n (pc := 72) dX1_countWords_72 rfl ?_
        refine JO_aload_n (pc := 73) dX1_countWords_73 rfl ?_
        refine JO_iload_n (pc := 74) dX1_countWords_74 rfl ?_
        refine JO_iload (pc := 75) dX1_countWords_75 rfl ?_
        refine JO_callVi (pc := 77) [.ref (G.1 + off t), .int x3, .int x4] lk_X1_118 rfl (ci := 1) rfl shX1 (w_X1_isFreed G d t ht x3 x4 σ10) rfl rfl (Nat.le_of_ble_eq_true rfl) dX1_countWords_77 (fun r11 => ?_)
        refine JO_if_eq (pc := 80) (tgt := 103) dX1_countWords_80 (by decide) ?_ ?_
        · exact JO_sub (l_sub_some (l_sub_some (l_sub_none (l_sub_some (l_sub_some (l_sub_some (l_sub_some (l_sub_some (l_sub_some (l_sub_some (l_sub_nil))))))))))) (w_X1_countWords_103 G d t s ht hs _ (ih) x3 x4 x6 x7 x8 x9 r11.2)
        · refine JO_iload (pc := 83) dX1_countWords_83 rfl ?_
          refine JO_if_ne (pc := 85) (tgt := 100) dX1_countWords_85 (by decide) ?_ ?_
          · exact JO_sub (l_sub_some (l_sub_some (l_sub_none (l_sub_some (l_sub_some (l_sub_some (l_sub_some (l_sub_some (l_sub_some (l_sub_some (l_sub_nil))))))))))) (w_X1_countWords_100 G d t s ht hs _ (w_X1_countWords_103 G d t s ht hs _ (ih)) x3 x4 x6 x7 x8 x9 r11.2)
          · refine JO_aload_n (pc := 88) dX1_countWords_88 rfl ?_
            refine JO_iload (pc := 89) dX1_countWords_89 rfl ?_
            refine JO_putI (pc := 91) fl_X1_54 rfl fkX1_found dX1_countWords_91 (fun σ12 => ?_)
            refine JO_aload_n (pc := 94) dX1_countWords_94 rfl ?_
            refine JO_iload (pc := 95) dX1_countWords_95 rfl ?_
            refine JO_putI (pc := 97) fl_X1_58 rfl fkX1_foundBy dX1_countWords_97 (fun σ13 => ?_)
            exact JO_sub (l_sub_some (l_sub_some (l_sub_none (l_sub_some (l_sub_some (l_sub_some (l_sub_some (l_sub_some (l_sub_some (l_sub_some (l_sub_nil))))))))))) (w_X1_countWords_100 G d t s ht hs _ (w_X1_countWords_103 G d t s ht hs _ (ih)) x3 x4 x6 x7 x8 x9 σ13)
set_option maxHeartbeats 4000000 in
set_option maxRecDepth 100000 in
theorem w_X1_countWords_27 (G : JG) (d : Nat) (t : Nat) (s : Nat) (ht : isTown t) (hs : isState s) : ∀ (n : Nat) (x3 : Int32) (x4 : Int32) (x6 : Int32) (x7 : Int32) (σ : Mem), JO G mX1_countWords (d + 4) 27 [some (.ref (G.1 + off 43)), some (.ref (G.1 + off t)), none, some (.int x3), some (.int x4), some (.ref (G.1 + off (t + 9))), some (.int x6), some (.int x7), none, none] [] σ rI (X1_countWords_27 t s n x3 x4 x6 x7 σ) := by
  intro n
  induction n with
  | zero =>
    intro x3 x4 x6 x7 σ
    exact JO_none
  | succ n ih =>
    intro x3 x4 x6 x7 σ
    rw [X1_countWords_27]
    refine JO_iload (pc := 27) dX1_countWords_27 rfl ?_
    refine JO_aload (pc := 29) dX1_countWords_29 rfl ?_
    refine JO_getI (pc := 31) fl_X1_106 rfl (fkForm_numbers (inTown_law ht)) dX1_countWords_31 ?_
    refine JO_icmp_ge (pc := 34) (tgt := 124) dX1_countWords_34 (by decide) ?_ ?_
    · refine JO_iload (pc := 124) dX1_countWords_124 rfl ?_
      exact JO_reti (pc := 126) rfl dX1_countWords_126
    · refine JO_aload (pc := 37) dX1_countWords_37 rfl ?_
      refine JO_iload (pc := 39) dX1_countWords_39 rfl ?_
      refine JO_callVi (pc := 41) [.int x7] lk_X1_111 rfl (ci := 2) rfl (shForm (inTown_law ht)) (w_X2_numberTold G (d + 3) (t + 9) (inTown_law ht) x7 σ) rfl rfl (Nat.le_of_ble_eq_true rfl) dX1_countWords_41 (fun r5 => ?_)
      refine JO_nm (fun v6 => ?_)
      refine JO_istore (pc := 44) (L' := [some (.ref (G.1 + off 43)), some (.ref (G.1 + off t)), none, some (.int x3), some (.int x4), some (.ref (G.1 + off (t + 9))), some (.int x6), some (.int x7), some (.int v6), none]) dX1_countWords_44 rfl rfl rfl ?_
      refine JO_iconst (pc := 46) (a := 0) dX1_countWords_46 (by decide) ?_
      refine JO_nm (fun v7 => ?_)
      refine JO_istore (pc := 47) (L' := [some (.ref (G.1 + off 43)), some (.ref (G.1 + off t)), none, some (.int x3), some (.int x4), some (.ref (G.1 + off (t + 9))), some (.int x6), some (.int x7), some (.int v6), some (.int v7)]) dX1_countWords_47 rfl rfl rfl ?_
      exact JO_sub (l_sub_some (l_sub_some (l_sub_none (l_sub_some (l_sub_some (l_sub_some (l_sub_some (l_sub_some (l_sub_some (l_sub_some (l_sub_nil))))))))))) (w_X1_countWords_49 G d t s ht hs _ (ih) fu x3 x4 x6 x7 v6 v7 r5.2)
set_option maxHeartbeats 4000000 in
set_option maxRecDepth 100000 in
theorem w_X1_countWords (G : JG) (d : Nat) (t : Nat) (s : Nat) (ht : isTown t) (hs : isState s) (x3 : Int32) (x4 : Int32) (σ : Mem) : JS G mX1_countWords (d + 4) [.ref (G.1 + off 43), .ref (G.1 + off t), .ref (G.1 + off s), .int x3, .int x4] σ rI (X1_countWords t s x3 x4 σ) := by
  refine JS_of 5 (by decide +kernel) (Nat.le_of_ble_eq_true rfl) (L := [some (.ref (G.1 + off 43)), some (.ref (G.1 + off t)), some (.ref (G.1 + off s)), some (.int x3), some (.int x4), none, none, none, none, none]) rfl ?_
  unfold X1_countWords
  refine JO_aload_n (pc := 0) dX1_countWords_0 rfl ?_
  refine JO_getR (pc := 1) fl_X1_96 rfl (fkTown_law ht) dX1_countWords_1 ?_
  refine JO_astore (pc := 4) (L' := [some (.ref (G.1 + off 43)), some (.ref (G.1 + off t)), some (.ref (G.1 + off s)), some (.int x3), some (.int x4), some (.ref (G.1 + off (t + 9))), none, none, none, none]) dX1_countWords_4 rfl rfl rfl ?_
  refine JO_iconst (pc := 6) (a := 0) dX1_countWords_6 (by decide) ?_
  refine JO_nm (fun v1 => ?_)
  refine JO_istore (pc := 7) (L' := [some (.ref (G.1 + off 43)), some (.ref (G.1 + off t)), some (.ref (G.1 + off s)), some (.int x3), some (.int x4), some (.ref (G.1 + off (t + 9))), some (.int v1), none, none, none]) dX1_countWords_7 rfl rfl rfl ?_
  refine JO_aload_n (pc := 9) dX1_countWords_9 rfl ?_
  refine JO_aload_n (pc := 10) dX1_countWords_10 rfl ?_
  refine JO_aload_n (pc := 11) dX1_countWords_11 rfl ?_
  refine JO_iload (pc := 12) dX1_countWords_12 rfl ?_
  refine JO_callVv (pc := 14) [.ref (G.1 + off t), .ref (G.1 + off s), .int x4] lk_X1_100 rfl (ci := 1) rfl shX1 (w_X1_keepRolls G d t s ht hs x4 σ) rfl rfl (Nat.le_of_ble_eq_true rfl) dX1_countWords_14 (fun σ2 => ?_)
  refine JO_aload_n (pc := 17) dX1_countWords_17 rfl ?_
  refine JO_aload_n (pc := 18) dX1_countWords_18 rfl ?_
  refine JO_aload_n (pc := 19) dX1_countWords_19 rfl ?_
  refine JO_iload_n (pc := 20) dX1_countWords_20 rfl ?_
  refine JO_callVv (pc := 21) [.ref (G.1 + off t), .ref (G.1 + off s), .int x3] lk_X1_103 rfl (ci := 1) rfl shX1 (w_X1_keepStart G (d + 1) t s ht hs x3 σ2) rfl rfl (Nat.le_of_ble_eq_true rfl) dX1_countWords_21 (fun σ3 => ?_)
  refine JO_iconst (pc := 24) (a := 0) dX1_countWords_24 (by decide) ?_
  refine JO_nm (fun v4 => ?_)
  refine JO_istore (pc := 25) (L' := [some (.ref (G.1 + off 43)), some (.ref (G.1 + off t)), some (.ref (G.1 + off s)), some (.int x3), some (.int x4), some (.ref (G.1 + off (t + 9))), some (.int v1), some (.int v4), none, none]) dX1_countWords_25 rfl rfl rfl ?_
  exact JO_sub (l_sub_some (l_sub_some (l_sub_none (l_sub_some (l_sub_some (l_sub_some (l_sub_some (l_sub_some (l_sub_none (l_sub_none (l_sub_nil))))))))))) (w_X1_countWords_27 G d t s ht hs fu x3 x4 v1 v4 σ3)
set_option maxHeartbeats 4000000 in
set_option maxRecDepth 100000 in
theorem w_X2_forget (G : JG) (d : Nat) (o : Nat) (ho : isForm o) (σ : Mem) : JS G mX2_forget d [.ref (G.1 + off o)] σ rV (X2_forget o σ) := by
  refine JS_of 0 (by decide +kernel) (Nat.le_of_ble_eq_true rfl) (L := [some (.ref (G.1 + off o))]) rfl ?_
  unfold X2_forget
  refine JO_aload_n (pc := 0) dX2_forget_0 rfl ?_
  refine JO_iconst (pc := 1) (a := 0) dX2_forget_1 (by decide) ?_
  refine JO_putI (pc := 2) fl_X2_24 rfl (fkForm_length ho) dX2_forget_2 (fun σ1 => ?_)
  refine JO_aload_n (pc := 5) dX2_forget_5 rfl ?_
  refine JO_iconst (pc := 6) (a := 0) dX2_forget_6 (by decide) ?_
  refine JO_putZc (pc := 7) fl_X2_28 rfl (by decide) (fkForm_isTold ho) dX2_forget_7 (fun σ2 => ?_)
  refine JO_aload_n (pc := 10) dX2_forget_10 rfl ?_
  refine JO_iconst (pc := 11) (a := 0) dX2_forget_11 (by decide) ?_
  refine JO_putZc (pc := 12) fl_X2_32 rfl (by decide) (fkForm_asksWet ho) dX2_forget_12 (fun σ3 => ?_)
  refine JO_aload_n (pc := 15) dX2_forget_15 rfl ?_
  refine JO_iconst (pc := 16) (a := 0) dX2_forget_16 (by decide) ?_
  refine JO_putI (pc := 17) fl_X2_35 rfl (fkForm_numbers ho) dX2_forget_17 (fun σ4 => ?_)
  exact JO_retv (pc := 20) rfl dX2_forget_20
set_option maxHeartbeats 4000000 in
set_option maxRecDepth 100000 in
theorem w_X2_addOperation (G : JG) (d : Nat) (o : Nat) (ho : isForm o) (x1 : Int32) (σ : Mem) : JS G mX2_addOperation d [.ref (G.1 + off o), .int x1] σ rV (X2_addOperation o x1 σ) := by
  refine JS_of 0 (by decide +kernel) (Nat.le_of_ble_eq_true rfl) (L := [some (.ref (G.1 + off o)), some (.int x1)]) rfl ?_
  unfold X2_addOperation
  refine JO_aload_n (pc := 0) dX2_addOperation_0 rfl ?_
  refine JO_getI (pc := 1) fl_X2_24 rfl (fkForm_length ho) dX2_addOperation_1 ?_
  refine JO_sipush (pc := 4) (a := 270) dX2_addOperation_4 (by decide) ?_
  refine JO_icmp_ge (pc := 7) (tgt := 30) dX2_addOperation_7 (by decide) ?_ ?_
  · exact JO_retv (pc := 30) rfl dX2_addOperation_30
  · refine JO_aload_n (pc := 10) dX2_addOperation_10 rfl ?_
    refine JO_getR (pc := 11) fl_X2_11 rfl (fkForm_operation ho) dX2_addOperation_11 ?_
    refine JO_aload_n (pc := 14) dX2_addOperation_14 rfl ?_
    refine JO_getI (pc := 15) fl_X2_24 rfl (fkForm_length ho) dX2_addOperation_15 ?_
    refine JO_iload_n (pc := 18) dX2_addOperation_18 rfl ?_
    refine JO_iast (pc := 19) (akForm_operation ho) dX2_addOperation_19 (fun σ1 => ?_)
    refine JO_aload_n (pc := 20) dX2_addOperation_20 rfl ?_
    refine JO_dup (pc := 21) dX2_addOperation_21 rfl ?_
    refine JO_getI (pc := 22) fl_X2_24 rfl (fkForm_length ho) dX2_addOperation_22 ?_
    refine JO_iconst (pc := 25) (a := 1) dX2_addOperation_25 (by decide) ?_
    refine JO_iadd (pc := 26) dX2_addOperation_26 ?_
    refine JO_putI (pc := 27) fl_X2_24 rfl (fkForm_length ho) dX2_addOperation_27 (fun σ2 => ?_)
    exact JO_retv (pc := 30) rfl dX2_addOperation_30
set_option maxHeartbeats 4000000 in
set_option maxRecDepth 100000 in
theorem w_X2_addNumber (G : JG) (d : Nat) (o : Nat) (ho : isForm o) (x1 : Int32) (σ : Mem) : JS G mX2_addNumber (d + 1) [.ref (G.1 + off o), .int x1] σ rV (X2_addNumber o x1 σ) := by
  refine JS_of 0 (by decide +kernel) (Nat.le_of_ble_eq_true rfl) (L := [some (.ref (G.1 + off o)), some (.int x1)]) rfl ?_
  unfold X2_addNumber
  refine JO_aload_n (pc := 0) dX2_addNumber_0 rfl ?_
  refine JO_getI (pc := 1) fl_X2_35 rfl (fkForm_numbers ho) dX2_addNumber_1 ?_
  refine JO_bipush (pc := 4) (a := 30) dX2_addNumber_4 (by decide) ?_
  refine JO_icmp_ge (pc := 6) (tgt := 57) dX2_addNumber_6 (by decide) ?_ ?_
  · exact JO_retv (pc := 57) rfl dX2_addNumber_57
  · refine JO_aload_n (pc := 9) dX2_addNumber_9 rfl ?_
    refine JO_getI (pc := 10) fl_X2_24 rfl (fkForm_length ho) dX2_addNumber_10 ?_
    refine JO_sipush (pc := 13) (a := 270) dX2_addNumber_13 (by decide) ?_
    refine JO_icmp_ge (pc := 16) (tgt := 57) dX2_addNumber_16 (by decide) ?_ ?_
    · exact JO_retv (pc := 57) rfl dX2_addNumber_57
    · refine JO_aload_n (pc := 19) dX2_addNumber_19 rfl ?_
      refine JO_getR (pc := 20) fl_X2_21 rfl (fkForm_numberAt ho) dX2_addNumber_20 ?_
      refine JO_aload_n (pc := 23) dX2_addNumber_23 rfl ?_
      refine JO_getI (pc := 24) fl_X2_35 rfl (fkForm_numbers ho) dX2_addNumber_24 ?_
      refine JO_aload_n (pc := 27) dX2_addNumber_27 rfl ?_
      refine JO_getI (pc := 28) fl_X2_24 rfl (fkForm_length ho) dX2_addNumber_28 ?_
      refine JO_iast (pc := 31) (akForm_numberAt ho) dX2_addNumber_31 (fun σ1 => ?_)
      refine JO_aload_n (pc := 32) dX2_addNumber_32 rfl ?_
      refine JO_dup (pc := 33) dX2_addNumber_33 rfl ?_
      refine JO_getI (pc := 34) fl_X2_35 rfl (fkForm_numbers ho) dX2_addNumber_34 ?_
      refine JO_iconst (pc := 37) (a := 1) dX2_addNumber_37 (by decide) ?_
      refine JO_iadd (pc := 38) dX2_addNumber_38 ?_
      refine JO_putI (pc := 39) fl_X2_35 rfl (fkForm_numbers ho) dX2_addNumber_39 (fun σ2 => ?_)
      refine JO_aload_n (pc := 42) dX2_addNumber_42 rfl ?_
      refine JO_getR (pc := 43) fl_X2_15 rfl (fkForm_operand ho) dX2_addNumber_43 ?_
      refine JO_aload_n (pc := 46) dX2_addNumber_46 rfl ?_
      refine JO_getI (pc := 47) fl_X2_24 rfl (fkForm_length ho) dX2_addNumber_47 ?_
      refine JO_iload_n (pc := 50) dX2_addNumber_50 rfl ?_
      refine JO_iast (pc := 51) (akForm_operand ho) dX2_addNumber_51 (fun σ3 => ?_)
      refine JO_aload_n (pc := 52) dX2_addNumber_52 rfl ?_
      refine JO_iconst (pc := 53) (a := 2) dX2_addNumber_53 (by decide) ?_
      refine JO_callVv (pc := 54) [.int 2] lk_X2_38 rfl (ci := 2) rfl (shForm ho) (w_X2_addOperation G d o ho 2 σ3) rfl rfl (Nat.le_of_ble_eq_true rfl) dX2_addNumber_54 (fun σ4 => ?_)
      exact JO_retv (pc := 57) rfl dX2_addNumber_57
set_option maxHeartbeats 4000000 in
set_option maxRecDepth 100000 in
theorem w_X2_addGiven_35 (G : JG) (d : Nat) (o : Nat) (ho : isForm o) : ∀ (x1 : Int32) (s0 : Int32) (s1 : Int32) (σ : Mem), JO G mX2_addGiven (d + 1) 35 [some (.ref (G.1 + off o)), some (.int x1)] [.int s0, .int s1, .ref (G.1 + off o)] σ rV (X2_addGiven_35 o x1 s0 s1 σ) := by
  intro x1 s0 s1 σ
  unfold X2_addGiven_35
  refine JO_ior (pc := 35) dX2_addGiven_35 ?_
  refine JO_putZ (pc := 36) fl_X2_32 rfl (fkForm_asksWet ho) dX2_addGiven_36 (fun σ1 => ?_)
  refine JO_aload_n (pc := 39) dX2_addGiven_39 rfl ?_
  refine JO_getR (pc := 40) fl_X2_15 rfl (fkForm_operand ho) dX2_addGiven_40 ?_
  refine JO_aload_n (pc := 43) dX2_addGiven_43 rfl ?_
  refine JO_getI (pc := 44) fl_X2_24 rfl (fkForm_length ho) dX2_addGiven_44 ?_
  refine JO_iload_n (pc := 47) dX2_addGiven_47 rfl ?_
  refine JO_iast (pc := 48) (akForm_operand ho) dX2_addGiven_48 (fun σ2 => ?_)
  refine JO_aload_n (pc := 49) dX2_addGiven_49 rfl ?_
  refine JO_bipush (pc := 50) (a := 116) dX2_addGiven_50 (by decide) ?_
  refine JO_callVv (pc := 52) [.int 116] lk_X2_38 rfl (ci := 2) rfl (shForm ho) (w_X2_addOperation G d o ho 116 σ2) rfl rfl (Nat.le_of_ble_eq_true rfl) dX2_addGiven_52 (fun σ3 => ?_)
  exact JO_retv (pc := 55) rfl dX2_addGiven_55
set_option maxHeartbeats 4000000 in
set_option maxRecDepth 100000 in
theorem w_X2_addGiven (G : JG) (d : Nat) (o : Nat) (ho : isForm o) (x1 : Int32) (σ : Mem) : JS G mX2_addGiven (d + 1) [.ref (G.1 + off o), .int x1] σ rV (X2_addGiven o x1 σ) := by
  refine JS_of 0 (by decide +kernel) (Nat.le_of_ble_eq_true rfl) (L := [some (.ref (G.1 + off o)), some (.int x1)]) rfl ?_
  unfold X2_addGiven
  refine JO_iload_n (pc := 0) dX2_addGiven_0 rfl ?_
  refine JO_if_lt (pc := 1) (tgt := 55) dX2_addGiven_1 (by decide) ?_ ?_
  · exact JO_retv (pc := 55) rfl dX2_addGiven_55
  · refine JO_iload_n (pc := 4) dX2_addGiven_4 rfl ?_
    refine JO_bipush (pc := 5) (a := 7) dX2_addGiven_5 (by decide) ?_
    refine JO_icmp_ge (pc := 7) (tgt := 55) dX2_addGiven_7 (by decide) ?_ ?_
    · exact JO_retv (pc := 55) rfl dX2_addGiven_55
    · refine JO_aload_n (pc := 10) dX2_addGiven_10 rfl ?_
      refine JO_getI (pc := 11) fl_X2_24 rfl (fkForm_length ho) dX2_addGiven_11 ?_
      refine JO_sipush (pc := 14) (a := 270) dX2_addGiven_14 (by decide) ?_
      refine JO_icmp_ge (pc := 17) (tgt := 55) dX2_addGiven_17 (by decide) ?_ ?_
      · exact JO_retv (pc := 55) rfl dX2_addGiven_55
      · refine JO_aload_n (pc := 20) dX2_addGiven_20 rfl ?_
        refine JO_dup (pc := 21) dX2_addGiven_21 rfl ?_
        refine JO_getI (pc := 22) fl_X2_32 rfl (fkForm_asksWet ho) dX2_addGiven_22 ?_
        refine JO_iload_n (pc := 25) dX2_addGiven_25 rfl ?_
        refine JO_iconst (pc := 26) (a := 3) dX2_addGiven_26 (by decide) ?_
        refine JO_icmp_ne (pc := 27) (tgt := 34) dX2_addGiven_27 (by decide) ?_ ?_
        · refine JO_iconst (pc := 34) (a := 0) dX2_addGiven_34 (by decide) ?_
          exact JO_sub (l_sub_some (l_sub_some (l_sub_nil))) (w_X2_addGiven_35 G d o ho x1 0 (σ.1 o 6) σ)
        · refine JO_iconst (pc := 30) (a := 1) dX2_addGiven_30 (by decide) ?_
          refine JO_goto (pc := 31) (tgt := 35) dX2_addGiven_31 (by decide) ?_
          exact JO_sub (l_sub_some (l_sub_some (l_sub_nil))) (w_X2_addGiven_35 G d o ho x1 1 (σ.1 o 6) σ)
set_option maxHeartbeats 4000000 in
set_option maxRecDepth 100000 in
theorem w_X7_store (G : JG) (d : Nat) (o : Nat) (a : Nat) (al : Nat) (ho : isState o) (ha : akind SH a = some (0, al)) (x2 : Int32) (σ : Mem) : JS G mX7_store (d + 1) [.ref (G.1 + off o), .ref (G.1 + off a), .int x2] σ rV (X7_store o a al x2 σ) := by
  refine JS_of 0 (by decide +kernel) (Nat.le_of_ble_eq_true rfl) (L := [some (.ref (G.1 + off o)), some (.ref (G.1 + off a)), some (.int x2)]) rfl ?_
  unfold X7_store
  refine JO_aload_n (pc := 0) dX7_store_0 rfl ?_
  refine JO_getR (pc := 1) fl_X7_9 rfl (fkState_place ho) dX7_store_1 ?_
  refine JO_iconst (pc := 4) (a := 0) dX7_store_4 (by decide) ?_
  refine JO_aload_n (pc := 5) dX7_store_5 rfl ?_
  refine JO_iload_n (pc := 6) dX7_store_6 rfl ?_
  refine JO_bipush (pc := 7) (a := 6) dX7_store_7 (by decide) ?_
  refine JO_copy (pc := 9) lc_X7_32 rfl (akState_place ho) ha (Nat.le_of_ble_eq_true rfl) dX7_store_9 (fun σ1 => ?_)
  refine JO_aload_n (pc := 12) dX7_store_12 rfl ?_
  refine JO_getR (pc := 13) fl_X7_15 rfl (fkState_aim ho) dX7_store_13 ?_
  refine JO_iconst (pc := 16) (a := 0) dX7_store_16 (by decide) ?_
  refine JO_aload_n (pc := 17) dX7_store_17 rfl ?_
  refine JO_iload_n (pc := 18) dX7_store_18 rfl ?_
  refine JO_bipush (pc := 19) (a := 6) dX7_store_19 (by decide) ?_
  refine JO_iadd (pc := 21) dX7_store_21 ?_
  refine JO_bipush (pc := 22) (a := 6) dX7_store_22 (by decide) ?_
  refine JO_copy (pc := 24) lc_X7_32 rfl (akState_aim ho) ha (Nat.le_of_ble_eq_true rfl) dX7_store_24 (fun σ2 => ?_)
  refine JO_aload_n (pc := 27) dX7_store_27 rfl ?_
  refine JO_getR (pc := 28) fl_X7_18 rfl (fkState_stand ho) dX7_store_28 ?_
  refine JO_iconst (pc := 31) (a := 0) dX7_store_31 (by decide) ?_
  refine JO_aload_n (pc := 32) dX7_store_32 rfl ?_
  refine JO_iload_n (pc := 33) dX7_store_33 rfl ?_
  refine JO_bipush (pc := 34) (a := 12) dX7_store_34 (by decide) ?_
  refine JO_iadd (pc := 36) dX7_store_36 ?_
  refine JO_bipush (pc := 37) (a := 6) dX7_store_37 (by decide) ?_
  refine JO_copy (pc := 39) lc_X7_32 rfl (akState_stand ho) ha (Nat.le_of_ble_eq_true rfl) dX7_store_39 (fun σ3 => ?_)
  refine JO_aload_n (pc := 42) dX7_store_42 rfl ?_
  refine JO_getR (pc := 43) fl_X7_21 rfl (fkState_coin ho) dX7_store_43 ?_
  refine JO_iconst (pc := 46) (a := 0) dX7_store_46 (by decide) ?_
  refine JO_aload_n (pc := 47) dX7_store_47 rfl ?_
  refine JO_iload_n (pc := 48) dX7_store_48 rfl ?_
  refine JO_bipush (pc := 49) (a := 18) dX7_store_49 (by decide) ?_
  refine JO_iadd (pc := 51) dX7_store_51 ?_
  refine JO_bipush (pc := 52) (a := 6) dX7_store_52 (by decide) ?_
  refine JO_copy (pc := 54) lc_X7_32 rfl (akState_coin ho) ha (Nat.le_of_ble_eq_true rfl) dX7_store_54 (fun σ4 => ?_)
  refine JO_aload_n (pc := 57) dX7_store_57 rfl ?_
  refine JO_getR (pc := 58) fl_X7_24 rfl (fkState_debt ho) dX7_store_58 ?_
  refine JO_iconst (pc := 61) (a := 0) dX7_store_61 (by decide) ?_
  refine JO_aload_n (pc := 62) dX7_store_62 rfl ?_
  refine JO_iload_n (pc := 63) dX7_store_63 rfl ?_
  refine JO_bipush (pc := 64) (a := 24) dX7_store_64 (by decide) ?_
  refine JO_iadd (pc := 66) dX7_store_66 ?_
  refine JO_aload_n (pc := 67) dX7_store_67 rfl ?_
  refine JO_getR (pc := 68) fl_X7_24 rfl (fkState_debt ho) dX7_store_68 ?_
  refine JO_alen (pc := 71) (a := 36) (akState_debt ho) (by decide) (by decide) dX7_store_71 ?_
  refine JO_copy (pc := 72) lc_X7_32 rfl (akState_debt ho) ha (Nat.le_of_ble_eq_true rfl) dX7_store_72 (fun σ5 => ?_)
  refine JO_aload_n (pc := 75) dX7_store_75 rfl ?_
  refine JO_iload_n (pc := 76) dX7_store_76 rfl ?_
  refine JO_bipush (pc := 77) (a := 63) dX7_store_77 (by decide) ?_
  refine JO_iadd (pc := 79) dX7_store_79 ?_
  refine JO_iconst (pc := 80) (a := 3) dX7_store_80 (by decide) ?_
  refine JO_isub (pc := 81) dX7_store_81 ?_
  refine JO_aload_n (pc := 82) dX7_store_82 rfl ?_
  refine JO_getI (pc := 83) fl_X7_40 rfl (fkState_date ho) dX7_store_83 ?_
  refine JO_iast (pc := 86) ha dX7_store_86 (fun σ6 => ?_)
  refine JO_aload_n (pc := 87) dX7_store_87 rfl ?_
  refine JO_iload_n (pc := 88) dX7_store_88 rfl ?_
  refine JO_bipush (pc := 89) (a := 63) dX7_store_89 (by decide) ?_
  refine JO_iadd (pc := 91) dX7_store_91 ?_
  refine JO_iconst (pc := 92) (a := 2) dX7_store_92 (by decide) ?_
  refine JO_isub (pc := 93) dX7_store_93 ?_
  refine JO_aload_n (pc := 94) dX7_store_94 rfl ?_
  refine JO_getI (pc := 95) fl_X7_44 rfl (fkState_hour ho) dX7_store_95 ?_
  refine JO_iast (pc := 98) ha dX7_store_98 (fun σ7 => ?_)
  refine JO_aload_n (pc := 99) dX7_store_99 rfl ?_
  refine JO_iload_n (pc := 100) dX7_store_100 rfl ?_
  refine JO_bipush (pc := 101) (a := 63) dX7_store_101 (by decide) ?_
  refine JO_iadd (pc := 103) dX7_store_103 ?_
  refine JO_iconst (pc := 104) (a := 1) dX7_store_104 (by decide) ?_
  refine JO_isub (pc := 105) dX7_store_105 ?_
  refine JO_aload_n (pc := 106) dX7_store_106 rfl ?_
  refine JO_getI (pc := 107) fl_X7_47 rfl (fkState_past ho) dX7_store_107 ?_
  refine JO_iast (pc := 110) ha dX7_store_110 (fun σ8 => ?_)
  exact JO_retv (pc := 111) rfl dX7_store_111
set_option maxHeartbeats 4000000 in
set_option maxRecDepth 100000 in
theorem w_X3_begin (G : JG) (d : Nat) (s : Nat) (hs : isState s) (σ : Mem) : JS G mX3_begin (d + 2) [.ref (G.1 + off 37), .ref (G.1 + off s)] σ rV (X3_begin s σ) := by
  refine JS_of 0 (by decide +kernel) (Nat.le_of_ble_eq_true rfl) (L := [some (.ref (G.1 + off 37)), some (.ref (G.1 + off s))]) rfl ?_
  unfold X3_begin
  refine JO_aload_n (pc := 0) dX3_begin_0 rfl ?_
  refine JO_iconst (pc := 1) (a := 0) dX3_begin_1 (by decide) ?_
  refine JO_putI (pc := 2) fl_X3_15 rfl fkX3_done dX3_begin_2 (fun σ1 => ?_)
  refine JO_aload_n (pc := 5) dX3_begin_5 rfl ?_
  refine JO_iconst (pc := 6) (a := 0) dX3_begin_6 (by decide) ?_
  refine JO_putI (pc := 7) fl_X3_19 rfl fkX3_kept dX3_begin_7 (fun σ2 => ?_)
  refine JO_aload_n (pc := 10) dX3_begin_10 rfl ?_
  refine JO_aload_n (pc := 11) dX3_begin_11 rfl ?_
  refine JO_getR (pc := 12) fl_X3_11 rfl fkX3_rows dX3_begin_12 ?_
  refine JO_iconst (pc := 15) (a := 0) dX3_begin_15 (by decide) ?_
  refine JO_callVv (pc := 16) [.ref (G.1 + off 38), .int 0] lk_X3_22 rfl (ci := 7) rfl (shState hs) (w_X7_store G d s 38 2583 hs akX3_rows 0 σ2) rfl rfl (Nat.le_of_ble_eq_true rfl) dX3_begin_16 (fun σ3 => ?_)
  exact JO_retv (pc := 19) rfl dX3_begin_19
set_option maxHeartbeats 4000000 in
set_option maxRecDepth 100000 in
theorem w_X3_add_39 (G : JG) (d : Nat) (s : Nat) (hs : isState s) : ∀ (σ : Mem), JO G mX3_add (d + 2) 39 [some (.ref (G.1 + off 37)), some (.ref (G.1 + off s))] [] σ rV (X3_add_39 s σ) := by
  intro σ
  unfold X3_add_39
  refine JO_aload_n (pc := 39) dX3_add_39 rfl ?_
  refine JO_aload_n (pc := 40) dX3_add_40 rfl ?_
  refine JO_getI (pc := 41) fl_X3_15 rfl fkX3_done dX3_add_41 ?_
  refine JO_putI (pc := 44) fl_X3_19 rfl fkX3_kept dX3_add_44 (fun σ3 => ?_)
  refine JO_aload_n (pc := 47) dX3_add_47 rfl ?_
  refine JO_aload_n (pc := 48) dX3_add_48 rfl ?_
  refine JO_getR (pc := 49) fl_X3_11 rfl fkX3_rows dX3_add_49 ?_
  refine JO_aload_n (pc := 52) dX3_add_52 rfl ?_
  refine JO_getI (pc := 53) fl_X3_15 rfl fkX3_done dX3_add_53 ?_
  refine JO_bipush (pc := 56) (a := 63) dX3_add_56 (by decide) ?_
  refine JO_imul (pc := 58) dX3_add_58 ?_
  refine JO_callVv (pc := 59) [.ref (G.1 + off 38), .int ((σ3.1 37 1) * 63)] lk_X3_22 rfl (ci := 7) rfl (shState hs) (w_X7_store G d s 38 2583 hs akX3_rows ((σ3.1 37 1) * 63) σ3) rfl rfl (Nat.le_of_ble_eq_true rfl) dX3_add_59 (fun σ4 => ?_)
  exact JO_retv (pc := 62) rfl dX3_add_62
set_option maxHeartbeats 4000000 in
set_option maxRecDepth 100000 in
theorem w_X3_add (G : JG) (d : Nat) (s : Nat) (hs : isState s) (σ : Mem) : JS G mX3_add (d + 2) [.ref (G.1 + off 37), .ref (G.1 + off s)] σ rV (X3_add s σ) := by
  refine JS_of 0 (by decide +kernel) (Nat.le_of_ble_eq_true rfl) (L := [some (.ref (G.1 + off 37)), some (.ref (G.1 + off s))]) rfl ?_
  unfold X3_add
  refine JO_aload_n (pc := 0) dX3_add_0 rfl ?_
  refine JO_getI (pc := 1) fl_X3_15 rfl fkX3_done dX3_add_1 ?_
  refine JO_bipush (pc := 4) (a := 40) dX3_add_4 (by decide) ?_
  refine JO_icmp_ne (pc := 6) (tgt := 29) dX3_add_6 (by decide) ?_ ?_
  · refine JO_aload_n (pc := 29) dX3_add_29 rfl ?_
    refine JO_dup (pc := 30) dX3_add_30 rfl ?_
    refine JO_getI (pc := 31) fl_X3_15 rfl fkX3_done dX3_add_31 ?_
    refine JO_iconst (pc := 34) (a := 1) dX3_add_34 (by decide) ?_
    refine JO_iadd (pc := 35) dX3_add_35 ?_
    refine JO_putI (pc := 36) fl_X3_15 rfl fkX3_done dX3_add_36 (fun σ1 => ?_)
    exact JO_sub (l_sub_some (l_sub_some (l_sub_nil))) (w_X3_add_39 G d s hs  σ1)
  · refine JO_aload_n (pc := 9) dX3_add_9 rfl ?_
    refine JO_getR (pc := 10) fl_X3_11 rfl fkX3_rows dX3_add_10 ?_
    refine JO_bipush (pc := 13) (a := 63) dX3_add_13 (by decide) ?_
    refine JO_aload_n (pc := 15) dX3_add_15 rfl ?_
    refine JO_getR (pc := 16) fl_X3_11 rfl fkX3_rows dX3_add_16 ?_
    refine JO_iconst (pc := 19) (a := 0) dX3_add_19 (by decide) ?_
    refine JO_sipush (pc := 20) (a := 2520) dX3_add_20 (by decide) ?_
    refine JO_copy (pc := 23) lc_X3_26 rfl akX3_rows akX3_rows (Nat.le_of_ble_eq_true rfl) dX3_add_23 (fun σ2 => ?_)
    refine JO_goto (pc := 26) (tgt := 39) dX3_add_26 (by decide) ?_
    exact JO_sub (l_sub_some (l_sub_some (l_sub_nil))) (w_X3_add_39 G d s hs  σ2)
set_option maxHeartbeats 4000000 in
set_option maxRecDepth 100000 in
theorem w_X7_load (G : JG) (d : Nat) (o : Nat) (a : Nat) (al : Nat) (ho : isState o) (ha : akind SH a = some (0, al)) (x2 : Int32) (σ : Mem) : JS G mX7_load (d + 1) [.ref (G.1 + off o), .ref (G.1 + off a), .int x2] σ rV (X7_load o a al x2 σ) := by
  refine JS_of 0 (by decide +kernel) (Nat.le_of_ble_eq_true rfl) (L := [some (.ref (G.1 + off o)), some (.ref (G.1 + off a)), some (.int x2)]) rfl ?_
  unfold X7_load
  refine JO_aload_n (pc := 0) dX7_load_0 rfl ?_
  refine JO_iload_n (pc := 1) dX7_load_1 rfl ?_
  refine JO_aload_n (pc := 2) dX7_load_2 rfl ?_
  refine JO_getR (pc := 3) fl_X7_9 rfl (fkState_place ho) dX7_load_3 ?_
  refine JO_iconst (pc := 6) (a := 0) dX7_load_6 (by decide) ?_
  refine JO_bipush (pc := 7) (a := 6) dX7_load_7 (by decide) ?_
  refine JO_copy (pc := 9) lc_X7_32 rfl ha (akState_place ho) (Nat.le_of_ble_eq_true rfl) dX7_load_9 (fun σ1 => ?_)
  refine JO_aload_n (pc := 12) dX7_load_12 rfl ?_
  refine JO_iload_n (pc := 13) dX7_load_13 rfl ?_
  refine JO_bipush (pc := 14) (a := 6) dX7_load_14 (by decide) ?_
  refine JO_iadd (pc := 16) dX7_load_16 ?_
  refine JO_aload_n (pc := 17) dX7_load_17 rfl ?_
  refine JO_getR (pc := 18) fl_X7_15 rfl (fkState_aim ho) dX7_load_18 ?_
  refine JO_iconst (pc := 21) (a := 0) dX7_load_21 (by decide) ?_
  refine JO_bipush (pc := 22) (a := 6) dX7_load_22 (by decide) ?_
  refine JO_copy (pc := 24) lc_X7_32 rfl ha (akState_aim ho) (Nat.le_of_ble_eq_true rfl) dX7_load_24 (fun σ2 => ?_)
  refine JO_aload_n (pc := 27) dX7_load_27 rfl ?_
  refine JO_iload_n (pc := 28) dX7_load_28 rfl ?_
  refine JO_bipush (pc := 29) (a := 12) dX7_load_29 (by decide) ?_
  refine JO_iadd (pc := 31) dX7_load_31 ?_
  refine JO_aload_n (pc := 32) dX7_load_32 rfl ?_
  refine JO_getR (pc := 33) fl_X7_18 rfl (fkState_stand ho) dX7_load_33 ?_
  refine JO_iconst (pc := 36) (a := 0) dX7_load_36 (by decide) ?_
  refine JO_bipush (pc := 37) (a := 6) dX7_load_37 (by decide) ?_
  refine JO_copy (pc := 39) lc_X7_32 rfl ha (akState_stand ho) (Nat.le_of_ble_eq_true rfl) dX7_load_39 (fun σ3 => ?_)
  refine JO_aload_n (pc := 42) dX7_load_42 rfl ?_
  refine JO_iload_n (pc := 43) dX7_load_43 rfl ?_
  refine JO_bipush (pc := 44) (a := 18) dX7_load_44 (by decide) ?_
  refine JO_iadd (pc := 46) dX7_load_46 ?_
  refine JO_aload_n (pc := 47) dX7_load_47 rfl ?_
  refine JO_getR (pc := 48) fl_X7_21 rfl (fkState_coin ho) dX7_load_48 ?_
  refine JO_iconst (pc := 51) (a := 0) dX7_load_51 (by decide) ?_
  refine JO_bipush (pc := 52) (a := 6) dX7_load_52 (by decide) ?_
  refine JO_copy (pc := 54) lc_X7_32 rfl ha (akState_coin ho) (Nat.le_of_ble_eq_true rfl) dX7_load_54 (fun σ4 => ?_)
  refine JO_aload_n (pc := 57) dX7_load_57 rfl ?_
  refine JO_iload_n (pc := 58) dX7_load_58 rfl ?_
  refine JO_bipush (pc := 59) (a := 24) dX7_load_59 (by decide) ?_
  refine JO_iadd (pc := 61) dX7_load_61 ?_
  refine JO_aload_n (pc := 62) dX7_load_62 rfl ?_
  refine JO_getR (pc := 63) fl_X7_24 rfl (fkState_debt ho) dX7_load_63 ?_
  refine JO_iconst (pc := 66) (a := 0) dX7_load_66 (by decide) ?_
  refine JO_aload_n (pc := 67) dX7_load_67 rfl ?_
  refine JO_getR (pc := 68) fl_X7_24 rfl (fkState_debt ho) dX7_load_68 ?_
  refine JO_alen (pc := 71) (a := 36) (akState_debt ho) (by decide) (by decide) dX7_load_71 ?_
  refine JO_copy (pc := 72) lc_X7_32 rfl ha (akState_debt ho) (Nat.le_of_ble_eq_true rfl) dX7_load_72 (fun σ5 => ?_)
  refine JO_aload_n (pc := 75) dX7_load_75 rfl ?_
  refine JO_aload_n (pc := 76) dX7_load_76 rfl ?_
  refine JO_iload_n (pc := 77) dX7_load_77 rfl ?_
  refine JO_bipush (pc := 78) (a := 63) dX7_load_78 (by decide) ?_
  refine JO_iadd (pc := 80) dX7_load_80 ?_
  refine JO_iconst (pc := 81) (a := 3) dX7_load_81 (by decide) ?_
  refine JO_isub (pc := 82) dX7_load_82 ?_
  refine JO_iald (pc := 83) ha dX7_load_83 ?_
  refine JO_putI (pc := 84) fl_X7_40 rfl (fkState_date ho) dX7_load_84 (fun σ6 => ?_)
  refine JO_aload_n (pc := 87) dX7_load_87 rfl ?_
  refine JO_aload_n (pc := 88) dX7_load_88 rfl ?_
  refine JO_iload_n (pc := 89) dX7_load_89 rfl ?_
  refine JO_bipush (pc := 90) (a := 63) dX7_load_90 (by decide) ?_
  refine JO_iadd (pc := 92) dX7_load_92 ?_
  refine JO_iconst (pc := 93) (a := 2) dX7_load_93 (by decide) ?_
  refine JO_isub (pc := 94) dX7_load_94 ?_
  refine JO_iald (pc := 95) ha dX7_load_95 ?_
  refine JO_putI (pc := 96) fl_X7_44 rfl (fkState_hour ho) dX7_load_96 (fun σ7 => ?_)
  refine JO_aload_n (pc := 99) dX7_load_99 rfl ?_
  refine JO_aload_n (pc := 100) dX7_load_100 rfl ?_
  refine JO_iload_n (pc := 101) dX7_load_101 rfl ?_
  refine JO_bipush (pc := 102) (a := 63) dX7_load_102 (by decide) ?_
  refine JO_iadd (pc := 104) dX7_load_104 ?_
  refine JO_iconst (pc := 105) (a := 1) dX7_load_105 (by decide) ?_
  refine JO_isub (pc := 106) dX7_load_106 ?_
  refine JO_iald (pc := 107) ha dX7_load_107 ?_
  refine JO_putI (pc := 108) fl_X7_47 rfl (fkState_past ho) dX7_load_108 (fun σ8 => ?_)
  exact JO_retv (pc := 111) rfl dX7_load_111
set_option maxHeartbeats 4000000 in
set_option maxRecDepth 100000 in
theorem w_X3_goBack (G : JG) (d : Nat) (s : Nat) (hs : isState s) (σ : Mem) : JS G mX3_goBack (d + 2) [.ref (G.1 + off 37), .ref (G.1 + off s)] σ rI (X3_goBack s σ) := by
  refine JS_of 0 (by decide +kernel) (Nat.le_of_ble_eq_true rfl) (L := [some (.ref (G.1 + off 37)), some (.ref (G.1 + off s))]) rfl ?_
  unfold X3_goBack
  refine JO_aload_n (pc := 0) dX3_goBack_0 rfl ?_
  refine JO_getI (pc := 1) fl_X3_15 rfl fkX3_done dX3_goBack_1 ?_
  refine JO_if_ne (pc := 4) (tgt := 9) dX3_goBack_4 (by decide) ?_ ?_
  · refine JO_aload_n (pc := 9) dX3_goBack_9 rfl ?_
    refine JO_dup (pc := 10) dX3_goBack_10 rfl ?_
    refine JO_getI (pc := 11) fl_X3_15 rfl fkX3_done dX3_goBack_11 ?_
    refine JO_iconst (pc := 14) (a := 1) dX3_goBack_14 (by decide) ?_
    refine JO_isub (pc := 15) dX3_goBack_15 ?_
    refine JO_putI (pc := 16) fl_X3_15 rfl fkX3_done dX3_goBack_16 (fun σ1 => ?_)
    refine JO_aload_n (pc := 19) dX3_goBack_19 rfl ?_
    refine JO_aload_n (pc := 20) dX3_goBack_20 rfl ?_
    refine JO_getR (pc := 21) fl_X3_11 rfl fkX3_rows dX3_goBack_21 ?_
    refine JO_aload_n (pc := 24) dX3_goBack_24 rfl ?_
    refine JO_getI (pc := 25) fl_X3_15 rfl fkX3_done dX3_goBack_25 ?_
    refine JO_bipush (pc := 28) (a := 63) dX3_goBack_28 (by decide) ?_
    refine JO_imul (pc := 30) dX3_goBack_30 ?_
    refine JO_callVv (pc := 31) [.ref (G.1 + off 38), .int ((σ1.1 37 1) * 63)] lk_X3_32 rfl (ci := 7) rfl (shState hs) (w_X7_load G d s 38 2583 hs akX3_rows ((σ1.1 37 1) * 63) σ1) rfl rfl (Nat.le_of_ble_eq_true rfl) dX3_goBack_31 (fun σ2 => ?_)
    refine JO_iconst (pc := 34) (a := 1) dX3_goBack_34 (by decide) ?_
    exact JO_retzc (pc := 35) (by decide) rfl dX3_goBack_35
  · refine JO_iconst (pc := 7) (a := 0) dX3_goBack_7 (by decide) ?_
    exact JO_retzc (pc := 8) (by decide) rfl dX3_goBack_8
set_option maxHeartbeats 4000000 in
set_option maxRecDepth 100000 in
theorem w_X3_goForth (G : JG) (d : Nat) (s : Nat) (hs : isState s) (σ : Mem) : JS G mX3_goForth (d + 2) [.ref (G.1 + off 37), .ref (G.1 + off s)] σ rI (X3_goForth s σ) := by
  refine JS_of 0 (by decide +kernel) (Nat.le_of_ble_eq_true rfl) (L := [some (.ref (G.1 + off 37)), some (.ref (G.1 + off s))]) rfl ?_
  unfold X3_goForth
  refine JO_aload_n (pc := 0) dX3_goForth_0 rfl ?_
  refine JO_getI (pc := 1) fl_X3_15 rfl fkX3_done dX3_goForth_1 ?_
  refine JO_aload_n (pc := 4) dX3_goForth_4 rfl ?_
  refine JO_getI (pc := 5) fl_X3_19 rfl fkX3_kept dX3_goForth_5 ?_
  refine JO_icmp_ne (pc := 8) (tgt := 13) dX3_goForth_8 (by decide) ?_ ?_
  · refine JO_aload_n (pc := 13) dX3_goForth_13 rfl ?_
    refine JO_dup (pc := 14) dX3_goForth_14 rfl ?_
    refine JO_getI (pc := 15) fl_X3_15 rfl fkX3_done dX3_goForth_15 ?_
    refine JO_iconst (pc := 18) (a := 1) dX3_goForth_18 (by decide) ?_
    refine JO_iadd (pc := 19) dX3_goForth_19 ?_
    refine JO_putI (pc := 20) fl_X3_15 rfl fkX3_done dX3_goForth_20 (fun σ1 => ?_)
    refine JO_aload_n (pc := 23) dX3_goForth_23 rfl ?_
    refine JO_aload_n (pc := 24) dX3_goForth_24 rfl ?_
    refine JO_getR (pc := 25) fl_X3_11 rfl fkX3_rows dX3_goForth_25 ?_
    refine JO_aload_n (pc := 28) dX3_goForth_28 rfl ?_
    refine JO_getI (pc := 29) fl_X3_15 rfl fkX3_done dX3_goForth_29 ?_
    refine JO_bipush (pc := 32) (a := 63) dX3_goForth_32 (by decide) ?_
    refine JO_imul (pc := 34) dX3_goForth_34 ?_
    refine JO_callVv (pc := 35) [.ref (G.1 + off 38), .int ((σ1.1 37 1) * 63)] lk_X3_32 rfl (ci := 7) rfl (shState hs) (w_X7_load G d s 38 2583 hs akX3_rows ((σ1.1 37 1) * 63) σ1) rfl rfl (Nat.le_of_ble_eq_true rfl) dX3_goForth_35 (fun σ2 => ?_)
    refine JO_iconst (pc := 38) (a := 1) dX3_goForth_38 (by decide) ?_
    exact JO_retzc (pc := 39) (by decide) rfl dX3_goForth_39
  · refine JO_iconst (pc := 11) (a := 0) dX3_goForth_11 (by decide) ?_
    exact JO_retzc (pc := 12) (by decide) rfl dX3_goForth_12
set_option maxHeartbeats 4000000 in
set_option maxRecDepth 100000 in
theorem w_X4_payOff_36 (G : JG) (d : Nat) (t : Nat) (ht : isTown t) (q1 : Nat) (hq1 : isState q1) : ∀ (n : Nat) (x3 : Int32) (x6 : Int32) (σ : Mem), JO G mX4_payOff (d + 4) 36 [some (.ref (G.1 + off 61)), some (.ref (G.1 + off t)), none, some (.int x3), none, some (.ref (G.1 + off q1)), some (.int x6)] [] σ rI (X4_payOff_36 t q1 n x3 x6 σ) := by
  intro n
  induction n with
  | zero =>
    intro x3 x6 σ
    exact JO_none
  | succ n ih =>
    intro x3 x6 σ
    rw [X4_payOff_36]
    refine JO_iload (pc := 36) dX4_payOff_36 rfl ?_
    refine JO_aload_n (pc := 38) dX4_payOff_38 rfl ?_
    refine JO_getI (pc := 39) fl_X4_36 rfl fkX4_soonest dX4_payOff_39 ?_
    refine JO_icmp_ge (pc := 42) (tgt := 82) dX4_payOff_42 (by decide) ?_ ?_
    · refine JO_aload_n (pc := 82) dX4_payOff_82 rfl ?_
      refine JO_getI (pc := 83) fl_X4_36 rfl fkX4_soonest dX4_payOff_83 ?_
      exact JO_reti (pc := 86) rfl dX4_payOff_86
    · refine JO_aload (pc := 45) dX4_payOff_45 rfl ?_
      refine JO_getR (pc := 47) fl_X4_54 rfl (fkState_debt hq1) dX4_payOff_47 ?_
      refine JO_aload_n (pc := 50) dX4_payOff_50 rfl ?_
      refine JO_getI (pc := 51) fl_X4_32 rfl fkX4_person dX4_payOff_51 ?_
      refine JO_iload_n (pc := 54) dX4_payOff_54 rfl ?_
      refine JO_callSNi (pc := 55) [.int (σ.1 61 3), .int x3] lk_X4_57 rfl (w_X11_cell G (d + 3) (σ.1 61 3) x3 σ) rfl rfl (Nat.le_of_ble_eq_true rfl) dX4_payOff_55 (fun r5 => ?_)
      refine JO_iald (pc := 58) (akState_debt hq1) dX4_payOff_58 ?_
      refine JO_if_ne (pc := 59) (tgt := 65) dX4_payOff_59 (by decide) ?_ ?_
      · refine JO_aload_n (pc := 65) dX4_payOff_65 rfl ?_
        refine JO_getR (pc := 66) fl_X4_12 rfl fkX4_clock dX4_payOff_66 ?_
        refine JO_aload_n (pc := 69) dX4_payOff_69 rfl ?_
        refine JO_aload (pc := 70) dX4_payOff_70 rfl ?_
        refine JO_callVi (pc := 72) [.ref (G.1 + off t), .ref (G.1 + off q1)] lk_X4_78 rfl (ci := 0) rfl (shClock (by unfold isClock; decide)) (w_X0_pass G d 62 t q1 (by unfold isClock; decide) ht hq1 r5.2) rfl rfl (Nat.le_of_ble_eq_true rfl) dX4_payOff_72 (fun r6 => ?_)
        refine JO_pop (pc := 75) dX4_payOff_75 rfl ?_
        refine JO_inc (pc := 76) (b := 1) (L' := fun v7 => [some (.ref (G.1 + off 61)), some (.ref (G.1 + off t)), none, some (.int x3), none, some (.ref (G.1 + off q1)), some (.int v7)]) dX4_payOff_76 rfl rfl (by decide) rfl (fun _ => rfl) (fun v7 => ?_)
        refine JO_goto (pc := 79) (tgt := 36) dX4_payOff_79 (by decide) ?_
        exact JO_sub (l_sub_some (l_sub_some (l_sub_none (l_sub_some (l_sub_none (l_sub_some (l_sub_some (l_sub_nil)))))))) (ih x3 v7 r6.2)
      · refine JO_iload (pc := 62) dX4_payOff_62 rfl ?_
        exact JO_reti (pc := 64) rfl dX4_payOff_64
set_option maxHeartbeats 4000000 in
set_option maxRecDepth 100000 in
theorem w_X4_payOff (G : JG) (d : Nat) (t : Nat) (ht : isTown t) (x2 : Int32) (x3 : Int32) (x4 : Int32) (σ : Mem) : JS G mX4_payOff (d + 4) [.ref (G.1 + off 61), .ref (G.1 + off t), .int x2, .int x3, .int x4] σ rI (X4_payOff t x2 x3 x4 σ) := by
  refine JS_of 2 (by decide +kernel) (Nat.le_of_ble_eq_true rfl) (L := [some (.ref (G.1 + off 61)), some (.ref (G.1 + off t)), some (.int x2), some (.int x3), some (.int x4), none, none]) rfl ?_
  unfold X4_payOff
  refine JO_aload_n (pc := 0) dX4_payOff_0 rfl ?_
  refine JO_getR (pc := 1) fl_X4_20 rfl fkX4_behind dX4_payOff_1 ?_
  refine JO_iload_n (pc := 4) dX4_payOff_4 rfl ?_
  refine JO_iconst (pc := 5) (a := 1) dX4_payOff_5 (by decide) ?_
  refine JO_iadd (pc := 6) dX4_payOff_6 ?_
  refine JO_aald (pc := 7) akX4_behind dX4_payOff_7 (fun q1 hq1 => ?_)
  refine JO_astore (pc := 8) (L' := [some (.ref (G.1 + off 61)), some (.ref (G.1 + off t)), some (.int x2), some (.int x3), some (.int x4), some (.ref (G.1 + off q1)), none]) dX4_payOff_8 rfl rfl rfl ?_
  refine JO_aload (pc := 10) dX4_payOff_10 rfl ?_
  refine JO_aload_n (pc := 12) dX4_payOff_12 rfl ?_
  refine JO_getR (pc := 13) fl_X4_20 rfl fkX4_behind dX4_payOff_13 ?_
  refine JO_iload_n (pc := 16) dX4_payOff_16 rfl ?_
  refine JO_aald (pc := 17) akX4_behind dX4_payOff_17 (fun q2 hq2 => ?_)
  refine JO_callVv (pc := 18) [.ref (G.1 + off q2)] lk_X4_42 rfl (ci := 7) rfl (shState hq1) (w_X7_copy G (d + 2) q1 q2 hq1 hq2 σ) rfl rfl (Nat.le_of_ble_eq_true rfl) dX4_payOff_18 (fun σ3 => ?_)
  refine JO_aload (pc := 21) dX4_payOff_21 rfl ?_
  refine JO_getR (pc := 23) fl_X4_51 rfl (fkState_aim hq1) dX4_payOff_23 ?_
  refine JO_aload_n (pc := 26) dX4_payOff_26 rfl ?_
  refine JO_getI (pc := 27) fl_X4_32 rfl fkX4_person dX4_payOff_27 ?_
  refine JO_iload_n (pc := 30) dX4_payOff_30 rfl ?_
  refine JO_iast (pc := 31) (akState_aim hq1) dX4_payOff_31 (fun σ4 => ?_)
  refine JO_iload (pc := 32) dX4_payOff_32 rfl ?_
  refine JO_istore (pc := 34) (L' := [some (.ref (G.1 + off 61)), some (.ref (G.1 + off t)), some (.int x2), some (.int x3), some (.int x4), some (.ref (G.1 + off q1)), some (.int x4)]) dX4_payOff_34 rfl rfl rfl ?_
  exact JO_sub (l_sub_some (l_sub_some (l_sub_none (l_sub_some (l_sub_none (l_sub_some (l_sub_some (l_sub_nil)))))))) (w_X4_payOff_36 G d t ht q1 hq1 fu x3 x4 σ4)
set_option maxHeartbeats 4000000 in
set_option maxRecDepth 100000 in
theorem w_X4_tryOrders_107 (G : JG) (d : Nat) (R : (Nat → Int32 → Int32 → Mem → Option Mem)) (t : Nat) (ht : isTown t) (hR : ∀ (t : Nat) (ht : isTown t) (x2 x3 : Int32) (σ : Mem), JS G mX4_tryOrders (d + 4) [.ref (G.1 + off 61), .ref (G.1 + off t), .int x2, .int x3] σ rV (R t x2 x3 σ)) (k38 : Int32 → Int32 → Int32 → Mem → Option Mem) (hk38 : ∀ (x2 : Int32) (x3 : Int32) (x4 : Int32) (σ : Mem), JO G mX4_tryOrders (d + 5) 38 [some (.ref (G.1 + off 61)), some (.ref (G.1 + off t)), some (.int x2), some (.int x3), some (.int x4), none] [] σ rV (k38 x2 x3 x4 σ)) : ∀ (x2 : Int32) (x3 : Int32) (x4 : Int32) (σ : Mem), JO G mX4_tryOrders (d + 5) 107 [some (.ref (G.1 + off 61)), some (.ref (G.1 + off t)), some (.int x2), some (.int x3), some (.int x4), none] [] σ rV (X4_tryOrders_107 R t k38 x2 x3 x4 σ) := by
  intro x2 x3 x4 σ
  unfold X4_tryOrders_107
  refine JO_inc (pc := 107) (b := 1) (L' := fun v10 => [some (.ref (G.1 + off 61)), some (.ref (G.1 + off t)), some (.int x2), some (.int x3), some (.int v10), none]) dX4_tryOrders_107 rfl rfl (by decide) rfl (fun _ => rfl) (fun v10 => ?_)
  refine JO_goto (pc := 110) (tgt := 38) dX4_tryOrders_110 (by decide) ?_
  exact JO_sub (l_sub_some (l_sub_some (l_sub_some (l_sub_some (l_sub_some (l_sub_none (l_sub_nil))))))) (hk38 x2 x3 v10 σ)
set_option maxHeartbeats 4000000 in
set_option maxRecDepth 100000 in
theorem w_X4_tryOrders_38 (G : JG) (d : Nat) (R : (Nat → Int32 → Int32 → Mem → Option Mem)) (t : Nat) (ht : isTown t) (hR : ∀ (t : Nat) (ht : isTown t) (x2 x3 : Int32) (σ : Mem), JS G mX4_tryOrders (d + 4) [.ref (G.1 + off 61), .ref (G.1 + off t), .int x2, .int x3] σ rV (R t x2 x3 σ)) : ∀ (n : Nat) (x2 : Int32) (x3 : Int32) (x4 : Int32) (σ : Mem), JO G mX4_tryOrders (d + 5) 38 [some (.ref (G.1 + off 61)), some (.ref (G.1 + off t)), some (.int x2), some (.int x3), some (.int x4), none] [] σ rV (X4_tryOrders_38 R t n x2 x3 x4 σ) := by
  intro n
  induction n with
  | zero =>
    intro x2 x3 x4 σ
    exact JO_none
  | succ n ih =>
    intro x2 x3 x4 σ
    rw [X4_tryOrders_38]
    refine JO_iload (pc := 38) dX4_tryOrders_38 rfl ?_
    refine JO_aload_n (pc := 40) dX4_tryOrders_40 rfl ?_
    refine JO_getI (pc := 41) fl_X4_46 rfl (fkTown_people ht) dX4_tryOrders_41 ?_
    refine JO_icmp_ge (pc := 44) (tgt := 113) dX4_tryOrders_44 (by decide) ?_ ?_
    · exact JO_retv (pc := 113) rfl dX4_tryOrders_113
    · refine JO_aload_n (pc := 47) dX4_tryOrders_47 rfl ?_
      refine JO_getR (pc := 48) fl_X4_20 rfl fkX4_behind dX4_tryOrders_48 ?_
      refine JO_iload_n (pc := 51) dX4_tryOrders_51 rfl ?_
      refine JO_aald (pc := 52) akX4_behind dX4_tryOrders_52 (fun q4 hq4 => ?_)
      refine JO_getR (pc := 53) fl_X4_54 rfl (fkState_debt hq4) dX4_tryOrders_53 ?_
      refine JO_aload_n (pc := 56) dX4_tryOrders_56 rfl ?_
      refine JO_getI (pc := 57) fl_X4_32 rfl fkX4_person dX4_tryOrders_57 ?_
      refine JO_iload (pc := 60) dX4_tryOrders_60 rfl ?_
      refine JO_callSNi (pc := 62) [.int (σ.1 61 3), .int x4] lk_X4_57 rfl (w_X11_cell G (d + 4) (σ.1 61 3) x4 σ) rfl rfl (Nat.le_of_ble_eq_true rfl) dX4_tryOrders_62 (fun r5 => ?_)
      refine JO_iald (pc := 65) (akState_debt hq4) dX4_tryOrders_65 ?_
      refine JO_if_le (pc := 66) (tgt := 107) dX4_tryOrders_66 (by decide) ?_ ?_
      · exact JO_sub (l_sub_some (l_sub_some (l_sub_some (l_sub_some (l_sub_some (l_sub_none (l_sub_nil))))))) (w_X4_tryOrders_107 G d R t ht hR _ (ih) x2 x3 x4 r5.2)
      · refine JO_aload_n (pc := 69) dX4_tryOrders_69 rfl ?_
        refine JO_getR (pc := 70) fl_X4_24 rfl fkX4_order dX4_tryOrders_70 ?_
        refine JO_iload_n (pc := 73) dX4_tryOrders_73 rfl ?_
        refine JO_iload (pc := 74) dX4_tryOrders_74 rfl ?_
        refine JO_iast (pc := 76) akX4_order dX4_tryOrders_76 (fun σ6 => ?_)
        refine JO_aload_n (pc := 77) dX4_tryOrders_77 rfl ?_
        refine JO_aload_n (pc := 78) dX4_tryOrders_78 rfl ?_
        refine JO_iload_n (pc := 79) dX4_tryOrders_79 rfl ?_
        refine JO_iload (pc := 80) dX4_tryOrders_80 rfl ?_
        refine JO_iload_n (pc := 82) dX4_tryOrders_82 rfl ?_
        refine JO_callVi (pc := 83) [.ref (G.1 + off t), .int x2, .int x4, .int x3] lk_X4_74 rfl (ci := 4) rfl shX4 (w_X4_payOff G d t ht x2 x4 x3 σ6) rfl rfl (Nat.le_of_ble_eq_true rfl) dX4_tryOrders_83 (fun r7 => ?_)
        refine JO_nm (fun v8 => ?_)
        refine JO_istore (pc := 86) (L' := [some (.ref (G.1 + off 61)), some (.ref (G.1 + off t)), some (.int x2), some (.int x3), some (.int x4), some (.int v8)]) dX4_tryOrders_86 rfl rfl rfl ?_
        refine JO_iload (pc := 88) dX4_tryOrders_88 rfl ?_
        refine JO_aload_n (pc := 90) dX4_tryOrders_90 rfl ?_
        refine JO_getI (pc := 91) fl_X4_36 rfl fkX4_soonest dX4_tryOrders_91 ?_
        refine JO_icmp_ge (pc := 94) (tgt := 107) dX4_tryOrders_94 (by decide) ?_ ?_
        · exact JO_sub (l_sub_some (l_sub_some (l_sub_some (l_sub_some (l_sub_some (l_sub_none (l_sub_nil))))))) (w_X4_tryOrders_107 G d R t ht hR _ (ih) x2 x3 x4 r7.2)
        · refine JO_aload_n (pc := 97) dX4_tryOrders_97 rfl ?_
          refine JO_aload_n (pc := 98) dX4_tryOrders_98 rfl ?_
          refine JO_iload_n (pc := 99) dX4_tryOrders_99 rfl ?_
          refine JO_iconst (pc := 100) (a := 1) dX4_tryOrders_100 (by decide) ?_
          refine JO_iadd (pc := 101) dX4_tryOrders_101 ?_
          refine JO_iload (pc := 102) dX4_tryOrders_102 rfl ?_
          refine JO_callVv (pc := 104) [.ref (G.1 + off t), .int (x2 + 1), .int v8] lk_X4_64 rfl (ci := 4) rfl shX4 (hR t ht (x2 + 1) v8 r7.2) rfl rfl (Nat.le_of_ble_eq_true rfl) dX4_tryOrders_104 (fun σ9 => ?_)
          exact JO_sub (l_sub_some (l_sub_some (l_sub_some (l_sub_some (l_sub_some (l_sub_none (l_sub_nil))))))) (w_X4_tryOrders_107 G d R t ht hR _ (ih) x2 x3 x4 σ9)
set_option maxHeartbeats 4000000 in
set_option maxRecDepth 100000 in
theorem w_X4_tryOrders_14 (G : JG) (d : Nat) (R : (Nat → Int32 → Int32 → Mem → Option Mem)) (t : Nat) (ht : isTown t) (hR : ∀ (t : Nat) (ht : isTown t) (x2 x3 : Int32) (σ : Mem), JS G mX4_tryOrders (d + 4) [.ref (G.1 + off 61), .ref (G.1 + off t), .int x2, .int x3] σ rV (R t x2 x3 σ)) : ∀ (x3 : Int32) (σ : Mem), JO G mX4_tryOrders (d + 5) 14 [some (.ref (G.1 + off 61)), none, none, some (.int x3), none, none] [] σ rV (X4_tryOrders_14 R t x3 σ) := by
  intro x3 σ
  unfold X4_tryOrders_14
  refine JO_aload_n (pc := 14) dX4_tryOrders_14 rfl ?_
  refine JO_iload_n (pc := 15) dX4_tryOrders_15 rfl ?_
  refine JO_putI (pc := 16) fl_X4_36 rfl fkX4_soonest dX4_tryOrders_16 (fun σ2 => ?_)
  refine JO_aload_n (pc := 19) dX4_tryOrders_19 rfl ?_
  refine JO_getR (pc := 20) fl_X4_24 rfl fkX4_order dX4_tryOrders_20 ?_
  refine JO_iconst (pc := 23) (a := 0) dX4_tryOrders_23 (by decide) ?_
  refine JO_aload_n (pc := 24) dX4_tryOrders_24 rfl ?_
  refine JO_getR (pc := 25) fl_X4_28 rfl fkX4_best dX4_tryOrders_25 ?_
  refine JO_iconst (pc := 28) (a := 0) dX4_tryOrders_28 (by decide) ?_
  refine JO_bipush (pc := 29) (a := 6) dX4_tryOrders_29 (by decide) ?_
  refine JO_copy (pc := 31) lc_X4_68 rfl akX4_order akX4_best (Nat.le_of_ble_eq_true rfl) dX4_tryOrders_31 (fun σ3 => ?_)
  exact JO_retv (pc := 34) rfl dX4_tryOrders_34
set_option maxHeartbeats 4000000 in
set_option maxRecDepth 100000 in
theorem w_X4_tryOrders (G : JG) (d : Nat) (R : (Nat → Int32 → Int32 → Mem → Option Mem)) (t : Nat) (ht : isTown t) (hR : ∀ (t : Nat) (ht : isTown t) (x2 x3 : Int32) (σ : Mem), JS G mX4_tryOrders (d + 4) [.ref (G.1 + off 61), .ref (G.1 + off t), .int x2, .int x3] σ rV (R t x2 x3 σ)) (x2 : Int32) (x3 : Int32) (σ : Mem) : JS G mX4_tryOrders (d + 5) [.ref (G.1 + off 61), .ref (G.1 + off t), .int x2, .int x3] σ rV (X4_tryOrders R t x2 x3 σ) := by
  refine JS_of 2 (by decide +kernel) (Nat.le_of_ble_eq_true rfl) (L := [some (.ref (G.1 + off 61)), some (.ref (G.1 + off t)), some (.int x2), some (.int x3), none, none]) rfl ?_
  unfold X4_tryOrders
  refine JO_iload_n (pc := 0) dX4_tryOrders_0 rfl ?_
  refine JO_aload_n (pc := 1) dX4_tryOrders_1 rfl ?_
  refine JO_getI (pc := 2) fl_X4_39 rfl fkX4_creditors dX4_tryOrders_2 ?_
  refine JO_icmp_ge (pc := 5) (tgt := 14) dX4_tryOrders_5 (by decide) ?_ ?_
  · exact JO_sub (l_sub_some (l_sub_none (l_sub_none (l_sub_some (l_sub_none (l_sub_none (l_sub_nil))))))) (w_X4_tryOrders_14 G d R t ht hR x3 σ)
  · refine JO_iload_n (pc := 8) dX4_tryOrders_8 rfl ?_
    refine JO_bipush (pc := 9) (a := 6) dX4_tryOrders_9 (by decide) ?_
    refine JO_icmp_lt (pc := 11) (tgt := 35) dX4_tryOrders_11 (by decide) ?_ ?_
    · refine JO_iconst (pc := 35) (a := 0) dX4_tryOrders_35 (by decide) ?_
      refine JO_nm (fun v1 => ?_)
      refine JO_istore (pc := 36) (L' := [some (.ref (G.1 + off 61)), some (.ref (G.1 + off t)), some (.int x2), some (.int x3), some (.int v1), none]) dX4_tryOrders_36 rfl rfl rfl ?_
      exact JO_sub (l_sub_some (l_sub_some (l_sub_some (l_sub_some (l_sub_some (l_sub_none (l_sub_nil))))))) (w_X4_tryOrders_38 G d R t ht hR fu x2 x3 v1 σ)
    · exact JO_sub (l_sub_some (l_sub_none (l_sub_none (l_sub_some (l_sub_none (l_sub_none (l_sub_nil))))))) (w_X4_tryOrders_14 G d R t ht hR x3 σ)
set_option maxHeartbeats 4000000 in
set_option maxRecDepth 100000 in
theorem w_X4_tryOrders_allE (G : JG) : ∀ (e d : Nat) (t : Nat) (ht : isTown t) (x2 : Int32) (x3 : Int32) (σ : Mem), JS G mX4_tryOrders (d + e + 5) [.ref (G.1 + off 61), .ref (G.1 + off t), .int x2, .int x3] σ rV (C_tryOrders e t x2 x3 σ) := by
  intro e
  induction e with
  | zero =>
    intro d t ht x2 x3 σ v hv
    cases hv
  | succ e ih =>
    intro d t ht x2 x3 σ
    have hR := fun (t : Nat) (ht : isTown t) (x2 : Int32) (x3 : Int32) (σ : Mem) => ih d t ht x2 x3 σ
    rw [show d + e + 5 = d + (e + 1) + 4 by omega] at hR
    exact w_X4_tryOrders G (d + (e + 1)) (C_tryOrders e) t ht hR x2 x3 σ
set_option maxHeartbeats 4000000 in
set_option maxRecDepth 100000 in
theorem w_X4_tryOrders_all (G : JG) (d : Nat) (t : Nat) (ht : isTown t) (x2 : Int32) (x3 : Int32) (σ : Mem) : JS G mX4_tryOrders (d + 8 + 5) [.ref (G.1 + off 61), .ref (G.1 + off t), .int x2, .int x3] σ rV (C_tryOrders 8 t x2 x3 σ) := w_X4_tryOrders_allE G 8 d t ht x2 x3 σ

set_option maxHeartbeats 4000000 in
set_option maxRecDepth 100000 in
theorem w_X4_hoursOfBest_80 (G : JG) (d : Nat) (t : Nat) (s : Nat) (ht : isTown t) (hs : isState s) (q4 : Nat) (hq4 : isState q4) (k34 : Int32 → Mem → Option (Int32 × Mem)) (hk34 : ∀ (x5 : Int32) (σ : Mem), JO G mX4_hoursOfBest (d + 14) 34 [some (.ref (G.1 + off 61)), some (.ref (G.1 + off t)), none, none, some (.ref (G.1 + off q4)), some (.int x5)] [] σ rI (k34 x5 σ)) : ∀ (x5 : Int32) (σ : Mem), JO G mX4_hoursOfBest (d + 14) 80 [some (.ref (G.1 + off 61)), some (.ref (G.1 + off t)), none, none, some (.ref (G.1 + off q4)), some (.int x5)] [] σ rI (X4_hoursOfBest_80 t s q4 k34 x5 σ) := by
  intro x5 σ
  unfold X4_hoursOfBest_80
  refine JO_inc (pc := 80) (b := 1) (L' := fun v12 => [some (.ref (G.1 + off 61)), some (.ref (G.1 + off t)), none, none, some (.ref (G.1 + off q4)), some (.int v12)]) dX4_hoursOfBest_80 rfl rfl (by decide) rfl (fun _ => rfl) (fun v12 => ?_)
  refine JO_goto (pc := 83) (tgt := 34) dX4_hoursOfBest_83 (by decide) ?_
  exact JO_sub (l_sub_some (l_sub_some (l_sub_none (l_sub_none (l_sub_some (l_sub_some (l_sub_nil))))))) (hk34 v12 σ)
set_option maxHeartbeats 4000000 in
set_option maxRecDepth 100000 in
theorem w_X4_hoursOfBest_34 (G : JG) (d : Nat) (t : Nat) (s : Nat) (ht : isTown t) (hs : isState s) (q4 : Nat) (hq4 : isState q4) : ∀ (n : Nat) (x5 : Int32) (σ : Mem), JO G mX4_hoursOfBest (d + 14) 34 [some (.ref (G.1 + off 61)), some (.ref (G.1 + off t)), none, none, some (.ref (G.1 + off q4)), some (.int x5)] [] σ rI (X4_hoursOfBest_34 t s q4 n x5 σ) := by
  intro n
  induction n with
  | zero =>
    intro x5 σ
    exact JO_none
  | succ n ih =>
    intro x5 σ
    rw [X4_hoursOfBest_34]
    refine JO_iload (pc := 34) dX4_hoursOfBest_34 rfl ?_
    refine JO_aload_n (pc := 36) dX4_hoursOfBest_36 rfl ?_
    refine JO_getI (pc := 37) fl_X4_46 rfl (fkTown_people ht) dX4_hoursOfBest_37 ?_
    refine JO_icmp_ge (pc := 40) (tgt := 86) dX4_hoursOfBest_40 (by decide) ?_ ?_
    · refine JO_aload (pc := 86) dX4_hoursOfBest_86 rfl ?_
      refine JO_getR (pc := 88) fl_X4_61 rfl (fkState_stand hq4) dX4_hoursOfBest_88 ?_
      refine JO_aload_n (pc := 91) dX4_hoursOfBest_91 rfl ?_
      refine JO_getI (pc := 92) fl_X4_32 rfl fkX4_person dX4_hoursOfBest_92 ?_
      refine JO_aload_n (pc := 95) dX4_hoursOfBest_95 rfl ?_
      refine JO_getI (pc := 96) fl_X4_32 rfl fkX4_person dX4_hoursOfBest_96 ?_
      refine JO_iast (pc := 99) (akState_stand hq4) dX4_hoursOfBest_99 (fun σ7 => ?_)
      refine JO_aload_n (pc := 100) dX4_hoursOfBest_100 rfl ?_
      refine JO_aload_n (pc := 101) dX4_hoursOfBest_101 rfl ?_
      refine JO_iconst (pc := 102) (a := 0) dX4_hoursOfBest_102 (by decide) ?_
      refine JO_iconst (pc := 103) (a := 0) dX4_hoursOfBest_103 (by decide) ?_
      refine JO_callVv (pc := 104) [.ref (G.1 + off t), .int 0, .int 0] lk_X4_64 rfl (ci := 4) rfl shX4 (w_X4_tryOrders_all G d t ht 0 0 σ7) rfl rfl (Nat.le_of_ble_eq_true rfl) dX4_hoursOfBest_104 (fun σ8 => ?_)
      refine JO_aload_n (pc := 107) dX4_hoursOfBest_107 rfl ?_
      refine JO_getI (pc := 108) fl_X4_36 rfl fkX4_soonest dX4_hoursOfBest_108 ?_
      refine JO_sipush (pc := 111) (a := 300) dX4_hoursOfBest_111 (by decide) ?_
      refine JO_icmp_le (pc := 114) (tgt := 121) dX4_hoursOfBest_114 (by decide) ?_ ?_
      · refine JO_aload_n (pc := 121) dX4_hoursOfBest_121 rfl ?_
        refine JO_getI (pc := 122) fl_X4_36 rfl fkX4_soonest dX4_hoursOfBest_122 ?_
        exact JO_reti (pc := 125) rfl dX4_hoursOfBest_125
      · refine JO_iconst (pc := 117) (a := (-1)) dX4_hoursOfBest_117 (by decide) ?_
        refine JO_goto (pc := 118) (tgt := 125) dX4_hoursOfBest_118 (by decide) ?_
        exact JO_reti (pc := 125) rfl dX4_hoursOfBest_125
    · refine JO_aload (pc := 43) dX4_hoursOfBest_43 rfl ?_
      refine JO_getR (pc := 45) fl_X4_51 rfl (fkState_aim hq4) dX4_hoursOfBest_45 ?_
      refine JO_iload (pc := 48) dX4_hoursOfBest_48 rfl ?_
      refine JO_iconst (pc := 50) (a := (-1)) dX4_hoursOfBest_50 (by decide) ?_
      refine JO_iast (pc := 51) (akState_aim hq4) dX4_hoursOfBest_51 (fun σ9 => ?_)
      refine JO_aload (pc := 52) dX4_hoursOfBest_52 rfl ?_
      refine JO_getR (pc := 54) fl_X4_54 rfl (fkState_debt hq4) dX4_hoursOfBest_54 ?_
      refine JO_aload_n (pc := 57) dX4_hoursOfBest_57 rfl ?_
      refine JO_getI (pc := 58) fl_X4_32 rfl fkX4_person dX4_hoursOfBest_58 ?_
      refine JO_iload (pc := 61) dX4_hoursOfBest_61 rfl ?_
      refine JO_callSNi (pc := 63) [.int (σ9.1 61 3), .int x5] lk_X4_57 rfl (w_X11_cell G (d + 13) (σ9.1 61 3) x5 σ9) rfl rfl (Nat.le_of_ble_eq_true rfl) dX4_hoursOfBest_63 (fun r10 => ?_)
      refine JO_iald (pc := 66) (akState_debt hq4) dX4_hoursOfBest_66 ?_
      refine JO_if_le (pc := 67) (tgt := 80) dX4_hoursOfBest_67 (by decide) ?_ ?_
      · exact JO_sub (l_sub_some (l_sub_some (l_sub_none (l_sub_none (l_sub_some (l_sub_some (l_sub_nil))))))) (w_X4_hoursOfBest_80 G d t s ht hs q4 hq4 _ (ih) x5 r10.2)
      · refine JO_aload_n (pc := 70) dX4_hoursOfBest_70 rfl ?_
        refine JO_dup (pc := 71) dX4_hoursOfBest_71 rfl ?_
        refine JO_getI (pc := 72) fl_X4_39 rfl fkX4_creditors dX4_hoursOfBest_72 ?_
        refine JO_iconst (pc := 75) (a := 1) dX4_hoursOfBest_75 (by decide) ?_
        refine JO_iadd (pc := 76) dX4_hoursOfBest_76 ?_
        refine JO_putI (pc := 77) fl_X4_39 rfl fkX4_creditors dX4_hoursOfBest_77 (fun σ11 => ?_)
        exact JO_sub (l_sub_some (l_sub_some (l_sub_none (l_sub_none (l_sub_some (l_sub_some (l_sub_nil))))))) (w_X4_hoursOfBest_80 G d t s ht hs q4 hq4 _ (ih) x5 σ11)
set_option maxHeartbeats 4000000 in
set_option maxRecDepth 100000 in
theorem w_X4_hoursOfBest (G : JG) (d : Nat) (t : Nat) (s : Nat) (ht : isTown t) (hs : isState s) (x3 : Int32) (σ : Mem) : JS G mX4_hoursOfBest (d + 14) [.ref (G.1 + off 61), .ref (G.1 + off t), .ref (G.1 + off s), .int x3] σ rI (X4_hoursOfBest t s x3 σ) := by
  refine JS_of 2 (by decide +kernel) (Nat.le_of_ble_eq_true rfl) (L := [some (.ref (G.1 + off 61)), some (.ref (G.1 + off t)), some (.ref (G.1 + off s)), some (.int x3), none, none]) rfl ?_
  unfold X4_hoursOfBest
  refine JO_aload_n (pc := 0) dX4_hoursOfBest_0 rfl ?_
  refine JO_iload_n (pc := 1) dX4_hoursOfBest_1 rfl ?_
  refine JO_putI (pc := 2) fl_X4_32 rfl fkX4_person dX4_hoursOfBest_2 (fun σ1 => ?_)
  refine JO_aload_n (pc := 5) dX4_hoursOfBest_5 rfl ?_
  refine JO_sipush (pc := 6) (a := 301) dX4_hoursOfBest_6 (by decide) ?_
  refine JO_putI (pc := 9) fl_X4_36 rfl fkX4_soonest dX4_hoursOfBest_9 (fun σ2 => ?_)
  refine JO_aload_n (pc := 12) dX4_hoursOfBest_12 rfl ?_
  refine JO_iconst (pc := 13) (a := 0) dX4_hoursOfBest_13 (by decide) ?_
  refine JO_putI (pc := 14) fl_X4_39 rfl fkX4_creditors dX4_hoursOfBest_14 (fun σ3 => ?_)
  refine JO_aload_n (pc := 17) dX4_hoursOfBest_17 rfl ?_
  refine JO_getR (pc := 18) fl_X4_20 rfl fkX4_behind dX4_hoursOfBest_18 ?_
  refine JO_iconst (pc := 21) (a := 0) dX4_hoursOfBest_21 (by decide) ?_
  refine JO_aald (pc := 22) akX4_behind dX4_hoursOfBest_22 (fun q4 hq4 => ?_)
  refine JO_astore (pc := 23) (L' := [some (.ref (G.1 + off 61)), some (.ref (G.1 + off t)), some (.ref (G.1 + off s)), some (.int x3), some (.ref (G.1 + off q4)), none]) dX4_hoursOfBest_23 rfl rfl rfl ?_
  refine JO_aload (pc := 25) dX4_hoursOfBest_25 rfl ?_
  refine JO_aload_n (pc := 27) dX4_hoursOfBest_27 rfl ?_
  refine JO_callVv (pc := 28) [.ref (G.1 + off s)] lk_X4_42 rfl (ci := 7) rfl (shState hq4) (w_X7_copy G (d + 12) q4 s hq4 hs σ3) rfl rfl (Nat.le_of_ble_eq_true rfl) dX4_hoursOfBest_28 (fun σ5 => ?_)
  refine JO_iconst (pc := 31) (a := 0) dX4_hoursOfBest_31 (by decide) ?_
  refine JO_nm (fun v6 => ?_)
  refine JO_istore (pc := 32) (L' := [some (.ref (G.1 + off 61)), some (.ref (G.1 + off t)), some (.ref (G.1 + off s)), some (.int x3), some (.ref (G.1 + off q4)), some (.int v6)]) dX4_hoursOfBest_32 rfl rfl rfl ?_
  exact JO_sub (l_sub_some (l_sub_some (l_sub_none (l_sub_none (l_sub_some (l_sub_some (l_sub_nil))))))) (w_X4_hoursOfBest_34 G d t s ht hs q4 hq4 fu v6 σ5)
