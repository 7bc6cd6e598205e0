set_option maxHeartbeats 4000000 in
set_option maxRecDepth 100000 in
theorem w_X10_rests (G : JG) (d : Nat) (o : Nat) (ho : isTown o) (x1 : Int32) (x2 : Int32) (σ : Mem) : JS G mX10_rests d [.ref (G.1 + off o), .int x1, .int x2] σ rI (X10_rests o x1 x2 σ) := by
  refine JS_of 0 (by decide +kernel) (Nat.le_of_ble_eq_true rfl) (L := [some (.ref (G.1 + off o)), some (.int x1), some (.int x2)]) rfl ?_
  unfold X10_rests
  refine JO_iload_n (pc := 0) dX10_rests_0 rfl ?_
  refine JO_aload_n (pc := 1) dX10_rests_1 rfl ?_
  refine JO_getI (pc := 2) fl_X10_49 rfl (fkTown_day ho) dX10_rests_2 ?_
  refine JO_aload_n (pc := 5) dX10_rests_5 rfl ?_
  refine JO_getR (pc := 6) fl_X10_24 rfl (fkTown_rest ho) dX10_rests_6 ?_
  refine JO_iload_n (pc := 9) dX10_rests_9 rfl ?_
  refine JO_iald (pc := 10) (akTown_rest ho) dX10_rests_10 ?_
  refine JO_isub (pc := 11) dX10_rests_11 ?_
  refine JO_icmp_lt (pc := 12) (tgt := 19) dX10_rests_12 (by decide) ?_ ?_
  · refine JO_iconst (pc := 19) (a := 0) dX10_rests_19 (by decide) ?_
    exact JO_retzc (pc := 20) (by decide) rfl dX10_rests_20
  · refine JO_iconst (pc := 15) (a := 1) dX10_rests_15 (by decide) ?_
    refine JO_goto (pc := 16) (tgt := 20) dX10_rests_16 (by decide) ?_
    exact JO_retzc (pc := 20) (by decide) rfl dX10_rests_20
set_option maxHeartbeats 4000000 in
set_option maxRecDepth 100000 in
theorem w_X0_meetings_99 (G : JG) (d : Nat) (o : Nat) (t : Nat) (s : Nat) (ho : isClock o) (ht : isTown t) (hs : isState s) (k5 : Int32 → Int32 → Mem → Option (Int32 × Mem)) (hk5 : ∀ (x3 : Int32) (x4 : Int32) (σ : Mem), JO G mX0_meetings (d + 1) 5 [none, some (.ref (G.1 + off t)), some (.ref (G.1 + off s)), some (.int x3), some (.int x4), none] [] σ rI (k5 x3 x4 σ)) : ∀ (x3 : Int32) (x4 : Int32) (σ : Mem), JO G mX0_meetings (d + 1) 99 [none, some (.ref (G.1 + off t)), some (.ref (G.1 + off s)), some (.int x3), some (.int x4), none] [] σ rI (X0_meetings_99 o t s k5 x3 x4 σ) := by
  intro x3 x4 σ
  unfold X0_meetings_99
  refine JO_inc (pc := 99) (b := 1) (L' := fun v7 => [none, some (.ref (G.1 + off t)), some (.ref (G.1 + off s)), some (.int x3), some (.int v7), none]) dX0_meetings_99 rfl rfl (by decide) rfl (fun _ => rfl) (fun v7 => ?_)
  refine JO_goto (pc := 102) (tgt := 5) dX0_meetings_102 (by decide) ?_
  exact JO_sub (l_sub_none (l_sub_some (l_sub_some (l_sub_some (l_sub_some (l_sub_none (l_sub_nil))))))) (hk5 x3 v7 σ)
set_option maxHeartbeats 4000000 in
set_option maxRecDepth 100000 in
theorem w_X0_meetings_5 (G : JG) (d : Nat) (o : Nat) (t : Nat) (s : Nat) (ho : isClock o) (ht : isTown t) (hs : isState s) : ∀ (n : Nat) (x3 : Int32) (x4 : Int32) (σ : Mem), JO G mX0_meetings (d + 1) 5 [none, some (.ref (G.1 + off t)), some (.ref (G.1 + off s)), some (.int x3), some (.int x4), none] [] σ rI (X0_meetings_5 o t s n x3 x4 σ) := by
  intro n
  induction n with
  | zero =>
    intro x3 x4 σ
    exact JO_none
  | succ n ih =>
    intro x3 x4 σ
    rw [X0_meetings_5]
    refine JO_iload (pc := 5) dX0_meetings_5 rfl ?_
    refine JO_aload_n (pc := 7) dX0_meetings_7 rfl ?_
    refine JO_getI (pc := 8) fl_X0_38 rfl (fkTown_people ht) dX0_meetings_8 ?_
    refine JO_icmp_ge (pc := 11) (tgt := 105) dX0_meetings_11 (by decide) ?_ ?_
    · refine JO_iload_n (pc := 105) dX0_meetings_105 rfl ?_
      exact JO_reti (pc := 106) rfl dX0_meetings_106
    · refine JO_aload_n (pc := 14) dX0_meetings_14 rfl ?_
      refine JO_getR (pc := 15) fl_X0_77 rfl (fkState_aim hs) dX0_meetings_15 ?_
      refine JO_iload (pc := 18) dX0_meetings_18 rfl ?_
      refine JO_iald (pc := 20) (akState_aim hs) dX0_meetings_20 ?_
      refine JO_nm (fun v3 => ?_)
      refine JO_istore (pc := 21) (L' := [none, some (.ref (G.1 + off t)), some (.ref (G.1 + off s)), some (.int x3), some (.int x4), some (.int v3)]) dX0_meetings_21 rfl rfl rfl ?_
      refine JO_iload (pc := 23) dX0_meetings_23 rfl ?_
      refine JO_iconst (pc := 25) (a := (-1)) dX0_meetings_25 (by decide) ?_
      refine JO_icmp_eq (pc := 26) (tgt := 99) dX0_meetings_26 (by decide) ?_ ?_
      · exact JO_sub (l_sub_none (l_sub_some (l_sub_some (l_sub_some (l_sub_some (l_sub_none (l_sub_nil))))))) (w_X0_meetings_99 G d o t s ho ht hs _ (ih) x3 x4 σ)
      · refine JO_aload_n (pc := 29) dX0_meetings_29 rfl ?_
        refine JO_getR (pc := 30) fl_X0_77 rfl (fkState_aim hs) dX0_meetings_30 ?_
        refine JO_iload (pc := 33) dX0_meetings_33 rfl ?_
        refine JO_iald (pc := 35) (akState_aim hs) dX0_meetings_35 ?_
        refine JO_iload (pc := 36) dX0_meetings_36 rfl ?_
        refine JO_icmp_ne (pc := 38) (tgt := 99) dX0_meetings_38 (by decide) ?_ ?_
        · exact JO_sub (l_sub_none (l_sub_some (l_sub_some (l_sub_some (l_sub_some (l_sub_none (l_sub_nil))))))) (w_X0_meetings_99 G d o t s ho ht hs _ (ih) x3 x4 σ)
        · refine JO_aload_n (pc := 41) dX0_meetings_41 rfl ?_
          refine JO_getR (pc := 42) fl_X0_80 rfl (fkState_place hs) dX0_meetings_42 ?_
          refine JO_iload (pc := 45) dX0_meetings_45 rfl ?_
          refine JO_iald (pc := 47) (akState_place hs) dX0_meetings_47 ?_
          refine JO_aload_n (pc := 48) dX0_meetings_48 rfl ?_
          refine JO_getR (pc := 49) fl_X0_80 rfl (fkState_place hs) dX0_meetings_49 ?_
          refine JO_iload (pc := 52) dX0_meetings_52 rfl ?_
          refine JO_iald (pc := 54) (akState_place hs) dX0_meetings_54 ?_
          refine JO_icmp_ne (pc := 55) (tgt := 99) dX0_meetings_55 (by decide) ?_ ?_
          · exact JO_sub (l_sub_none (l_sub_some (l_sub_some (l_sub_some (l_sub_some (l_sub_none (l_sub_nil))))))) (w_X0_meetings_99 G d o t s ho ht hs _ (ih) x3 x4 σ)
          · refine JO_aload_n (pc := 58) dX0_meetings_58 rfl ?_
            refine JO_iload (pc := 59) dX0_meetings_59 rfl ?_
            refine JO_aload_n (pc := 61) dX0_meetings_61 rfl ?_
            refine JO_getI (pc := 62) fl_X0_69 rfl (fkState_hour hs) dX0_meetings_62 ?_
            refine JO_callVi (pc := 65) [.int x4, .int (σ.1 s 6)] lk_X0_83 rfl (ci := 10) rfl (shTown ht) (w_X10_rests G d t ht x4 (σ.1 s 6) σ) rfl rfl (Nat.le_of_ble_eq_true rfl) dX0_meetings_65 (fun r4 => ?_)
            refine JO_if_ne (pc := 68) (tgt := 99) dX0_meetings_68 (by decide) ?_ ?_
            · exact JO_sub (l_sub_none (l_sub_some (l_sub_some (l_sub_some (l_sub_some (l_sub_none (l_sub_nil))))))) (w_X0_meetings_99 G d o t s ho ht hs _ (ih) x3 x4 r4.2)
            · refine JO_aload_n (pc := 71) dX0_meetings_71 rfl ?_
              refine JO_iload (pc := 72) dX0_meetings_72 rfl ?_
              refine JO_aload_n (pc := 74) dX0_meetings_74 rfl ?_
              refine JO_getI (pc := 75) fl_X0_69 rfl (fkState_hour hs) dX0_meetings_75 ?_
              refine JO_callVi (pc := 78) [.int v3, .int (r4.2.1 s 6)] lk_X0_83 rfl (ci := 10) rfl (shTown ht) (w_X10_rests G d t ht v3 (r4.2.1 s 6) r4.2) rfl rfl (Nat.le_of_ble_eq_true rfl) dX0_meetings_78 (fun r5 => ?_)
              refine JO_if_ne (pc := 81) (tgt := 99) dX0_meetings_81 (by decide) ?_ ?_
              · exact JO_sub (l_sub_none (l_sub_some (l_sub_some (l_sub_some (l_sub_some (l_sub_none (l_sub_nil))))))) (w_X0_meetings_99 G d o t s ho ht hs _ (ih) x3 x4 r5.2)
              · refine JO_iload_n (pc := 84) dX0_meetings_84 rfl ?_
                refine JO_iconst (pc := 85) (a := 1) dX0_meetings_85 (by decide) ?_
                refine JO_iload (pc := 86) dX0_meetings_86 rfl ?_
                refine JO_ishl (pc := 88) dX0_meetings_88 ?_
                refine JO_iconst (pc := 89) (a := 1) dX0_meetings_89 (by decide) ?_
                refine JO_bipush (pc := 90) (a := 6) dX0_meetings_90 (by decide) ?_
                refine JO_iload (pc := 92) dX0_meetings_92 rfl ?_
                refine JO_iadd (pc := 94) dX0_meetings_94 ?_
                refine JO_ishl (pc := 95) dX0_meetings_95 ?_
                refine JO_ior (pc := 96) dX0_meetings_96 ?_
                refine JO_ior (pc := 97) dX0_meetings_97 ?_
                refine JO_nm (fun v6 => ?_)
                refine JO_istore_n (pc := 98) (L' := [none, some (.ref (G.1 + off t)), some (.ref (G.1 + off s)), some (.int v6), some (.int x4), some (.int v3)]) dX0_meetings_98 rfl rfl rfl ?_
                exact JO_sub (l_sub_none (l_sub_some (l_sub_some (l_sub_some (l_sub_some (l_sub_none (l_sub_nil))))))) (w_X0_meetings_99 G d o t s ho ht hs _ (ih) v6 x4 r5.2)
set_option maxHeartbeats 4000000 in
set_option maxRecDepth 100000 in
theorem w_X0_meetings (G : JG) (d : Nat) (o : Nat) (t : Nat) (s : Nat) (ho : isClock o) (ht : isTown t) (hs : isState s) (σ : Mem) : JS G mX0_meetings (d + 1) [.ref (G.1 + off o), .ref (G.1 + off t), .ref (G.1 + off s)] σ rI (X0_meetings o t s σ) := by
  refine JS_of 3 (by decide +kernel) (Nat.le_of_ble_eq_true rfl) (L := [some (.ref (G.1 + off o)), some (.ref (G.1 + off t)), some (.ref (G.1 + off s)), none, none, none]) rfl ?_
  unfold X0_meetings
  refine JO_iconst (pc := 0) (a := 0) dX0_meetings_0 (by decide) ?_
  refine JO_nm (fun v1 => ?_)
  refine JO_istore_n (pc := 1) (L' := [some (.ref (G.1 + off o)), some (.ref (G.1 + off t)), some (.ref (G.1 + off s)), some (.int v1), none, none]) dX0_meetings_1 rfl rfl rfl ?_
  refine JO_iconst (pc := 2) (a := 0) dX0_meetings_2 (by decide) ?_
  refine JO_nm (fun v2 => ?_)
  refine JO_istore (pc := 3) (L' := [some (.ref (G.1 + off o)), some (.ref (G.1 + off t)), some (.ref (G.1 + off s)), some (.int v1), some (.int v2), none]) dX0_meetings_3 rfl rfl rfl ?_
  exact JO_sub (l_sub_none (l_sub_some (l_sub_some (l_sub_some (l_sub_some (l_sub_none (l_sub_nil))))))) (w_X0_meetings_5 G d o t s ho ht hs fu v1 v2 σ)
set_option maxHeartbeats 4000000 in
set_option maxRecDepth 100000 in
theorem w_X0_isMeeting (G : JG) (d : Nat) (x0 : Int32) (x1 : Int32) (σ : Mem) : JS G mX0_isMeeting d [.int x0, .int x1] σ rI (X0_isMeeting x0 x1 σ) := by
  refine JS_of 0 (by decide +kernel) (Nat.le_of_ble_eq_true rfl) (L := [some (.int x0), some (.int x1)]) rfl ?_
  unfold X0_isMeeting
  refine JO_iload_n (pc := 0) dX0_isMeeting_0 rfl ?_
  refine JO_bipush (pc := 1) (a := 6) dX0_isMeeting_1 (by decide) ?_
  refine JO_iload_n (pc := 3) dX0_isMeeting_3 rfl ?_
  refine JO_iadd (pc := 4) dX0_isMeeting_4 ?_
  refine JO_ishr (pc := 5) dX0_isMeeting_5 ?_
  refine JO_iconst (pc := 6) (a := 1) dX0_isMeeting_6 (by decide) ?_
  refine JO_iand (pc := 7) dX0_isMeeting_7 ?_
  refine JO_if_eq (pc := 8) (tgt := 15) dX0_isMeeting_8 (by decide) ?_ ?_
  · refine JO_iconst (pc := 15) (a := 0) dX0_isMeeting_15 (by decide) ?_
    exact JO_retzc (pc := 16) (by decide) rfl dX0_isMeeting_16
  · refine JO_iconst (pc := 11) (a := 1) dX0_isMeeting_11 (by decide) ?_
    refine JO_goto (pc := 12) (tgt := 16) dX0_isMeeting_12 (by decide) ?_
    exact JO_retzc (pc := 16) (by decide) rfl dX0_isMeeting_16
set_option maxHeartbeats 4000000 in
set_option maxRecDepth 100000 in
theorem w_X10_isOpen (G : JG) (d : Nat) (o : Nat) (ho : isTown o) (x1 : Int32) (x2 : Int32) (σ : Mem) : JS G mX10_isOpen d [.ref (G.1 + off o), .int x1, .int x2] σ rI (X10_isOpen o x1 x2 σ) := by
  refine JS_of 0 (by decide +kernel) (Nat.le_of_ble_eq_true rfl) (L := [some (.ref (G.1 + off o)), some (.int x1), some (.int x2)]) rfl ?_
  unfold X10_isOpen
  refine JO_iload_n (pc := 0) dX10_isOpen_0 rfl ?_
  refine JO_aload_n (pc := 1) dX10_isOpen_1 rfl ?_
  refine JO_getR (pc := 2) fl_X10_15 rfl (fkTown_from ho) dX10_isOpen_2 ?_
  refine JO_iload_n (pc := 5) dX10_isOpen_5 rfl ?_
  refine JO_iald (pc := 6) (akTown_from ho) dX10_isOpen_6 ?_
  refine JO_icmp_lt (pc := 7) (tgt := 24) dX10_isOpen_7 (by decide) ?_ ?_
  · refine JO_iconst (pc := 24) (a := 0) dX10_isOpen_24 (by decide) ?_
    exact JO_retzc (pc := 25) (by decide) rfl dX10_isOpen_25
  · refine JO_iload_n (pc := 10) dX10_isOpen_10 rfl ?_
    refine JO_aload_n (pc := 11) dX10_isOpen_11 rfl ?_
    refine JO_getR (pc := 12) fl_X10_18 rfl (fkTown_to ho) dX10_isOpen_12 ?_
    refine JO_iload_n (pc := 15) dX10_isOpen_15 rfl ?_
    refine JO_iald (pc := 16) (akTown_to ho) dX10_isOpen_16 ?_
    refine JO_icmp_ge (pc := 17) (tgt := 24) dX10_isOpen_17 (by decide) ?_ ?_
    · refine JO_iconst (pc := 24) (a := 0) dX10_isOpen_24 (by decide) ?_
      exact JO_retzc (pc := 25) (by decide) rfl dX10_isOpen_25
    · refine JO_iconst (pc := 20) (a := 1) dX10_isOpen_20 (by decide) ?_
      refine JO_goto (pc := 21) (tgt := 25) dX10_isOpen_21 (by decide) ?_
      exact JO_retzc (pc := 25) (by decide) rfl dX10_isOpen_25
set_option maxHeartbeats 4000000 in
set_option maxRecDepth 100000 in
theorem w_X0_staysToWait_118 (G : JG) (d : Nat) (o : Nat) (t : Nat) (s : Nat) (ho : isClock o) (ht : isTown t) (hs : isState s) : ∀ (s0 : Int32) (s1 : Int32) (σ : Mem), JO G mX0_staysToWait (d + 1) 118 [none, none, none, none, none, none, none, none] [.int s0, .int s1, .ref (G.1 + off (s + 1))] σ rI (X0_staysToWait_118 o t s s0 s1 σ) := by
  intro s0 s1 σ
  unfold X0_staysToWait_118
  refine JO_iast (pc := 118) (akState_place hs) dX0_staysToWait_118 (fun σ5 => ?_)
  refine JO_iconst (pc := 119) (a := 0) dX0_staysToWait_119 (by decide) ?_
  exact JO_retzc (pc := 120) (by decide) rfl dX0_staysToWait_120
set_option maxHeartbeats 4000000 in
set_option maxRecDepth 100000 in
theorem w_X0_staysToWait_54 (G : JG) (d : Nat) (o : Nat) (t : Nat) (s : Nat) (ho : isClock o) (ht : isTown t) (hs : isState s) : ∀ (x3 : Int32) (x4 : Int32) (x5 : Int32) (s0 : Int32) (σ : Mem), JO G mX0_staysToWait (d + 1) 54 [none, some (.ref (G.1 + off t)), some (.ref (G.1 + off s)), some (.int x3), some (.int x4), some (.int x5), none, none] [.int s0] σ rI (X0_staysToWait_54 o t s x3 x4 x5 s0 σ) := by
  intro x3 x4 x5 s0 σ
  unfold X0_staysToWait_54
  refine JO_istore (pc := 54) (L' := [none, some (.ref (G.1 + off t)), some (.ref (G.1 + off s)), some (.int x3), some (.int x4), some (.int x5), some (.int s0), none]) dX0_staysToWait_54 rfl rfl rfl ?_
  refine JO_aload_n (pc := 56) dX0_staysToWait_56 rfl ?_
  refine JO_getR (pc := 57) fl_X0_80 rfl (fkState_place hs) dX0_staysToWait_57 ?_
  refine JO_iload_n (pc := 60) dX0_staysToWait_60 rfl ?_
  refine JO_iald (pc := 61) (akState_place hs) dX0_staysToWait_61 ?_
  refine JO_nm (fun v3 => ?_)
  refine JO_istore (pc := 62) (L' := [none, some (.ref (G.1 + off t)), some (.ref (G.1 + off s)), some (.int x3), some (.int x4), some (.int x5), some (.int s0), some (.int v3)]) dX0_staysToWait_62 rfl rfl rfl ?_
  refine JO_iload (pc := 64) dX0_staysToWait_64 rfl ?_
  refine JO_iload (pc := 66) dX0_staysToWait_66 rfl ?_
  refine JO_icmp_ne (pc := 68) (tgt := 95) dX0_staysToWait_68 (by decide) ?_ ?_
  · refine JO_aload_n (pc := 95) dX0_staysToWait_95 rfl ?_
    refine JO_getR (pc := 96) fl_X0_80 rfl (fkState_place hs) dX0_staysToWait_96 ?_
    refine JO_iload_n (pc := 99) dX0_staysToWait_99 rfl ?_
    refine JO_iload (pc := 100) dX0_staysToWait_100 rfl ?_
    refine JO_iload (pc := 102) dX0_staysToWait_102 rfl ?_
    refine JO_icmp_ge (pc := 104) (tgt := 114) dX0_staysToWait_104 (by decide) ?_ ?_
    · refine JO_iload (pc := 114) dX0_staysToWait_114 rfl ?_
      refine JO_iconst (pc := 116) (a := 1) dX0_staysToWait_116 (by decide) ?_
      refine JO_isub (pc := 117) dX0_staysToWait_117 ?_
      exact JO_sub (l_sub_none (l_sub_none (l_sub_none (l_sub_none (l_sub_none (l_sub_none (l_sub_none (l_sub_none (l_sub_nil))))))))) (w_X0_staysToWait_118 G d o t s ho ht hs (v3 - 1) x3 σ)
    · refine JO_iload (pc := 107) dX0_staysToWait_107 rfl ?_
      refine JO_iconst (pc := 109) (a := 1) dX0_staysToWait_109 (by decide) ?_
      refine JO_iadd (pc := 110) dX0_staysToWait_110 ?_
      refine JO_goto (pc := 111) (tgt := 118) dX0_staysToWait_111 (by decide) ?_
      exact JO_sub (l_sub_none (l_sub_none (l_sub_none (l_sub_none (l_sub_none (l_sub_none (l_sub_none (l_sub_none (l_sub_nil))))))))) (w_X0_staysToWait_118 G d o t s ho ht hs (v3 + 1) x3 σ)
  · refine JO_iload (pc := 71) dX0_staysToWait_71 rfl ?_
    refine JO_if_ne (pc := 73) (tgt := 93) dX0_staysToWait_73 (by decide) ?_ ?_
    · refine JO_iconst (pc := 93) (a := 0) dX0_staysToWait_93 (by decide) ?_
      exact JO_retzc (pc := 94) (by decide) rfl dX0_staysToWait_94
    · refine JO_aload_n (pc := 76) dX0_staysToWait_76 rfl ?_
      refine JO_iload (pc := 77) dX0_staysToWait_77 rfl ?_
      refine JO_aload_n (pc := 79) dX0_staysToWait_79 rfl ?_
      refine JO_getI (pc := 80) fl_X0_69 rfl (fkState_hour hs) dX0_staysToWait_80 ?_
      refine JO_callVi (pc := 83) [.int x4, .int (σ.1 s 6)] lk_X0_89 rfl (ci := 10) rfl (shTown ht) (w_X10_isOpen G d t ht x4 (σ.1 s 6) σ) rfl rfl (Nat.le_of_ble_eq_true rfl) dX0_staysToWait_83 (fun r4 => ?_)
      refine JO_if_eq (pc := 86) (tgt := 93) dX0_staysToWait_86 (by decide) ?_ ?_
      · refine JO_iconst (pc := 93) (a := 0) dX0_staysToWait_93 (by decide) ?_
        exact JO_retzc (pc := 94) (by decide) rfl dX0_staysToWait_94
      · refine JO_iconst (pc := 89) (a := 1) dX0_staysToWait_89 (by decide) ?_
        refine JO_goto (pc := 90) (tgt := 94) dX0_staysToWait_90 (by decide) ?_
        exact JO_retzc (pc := 94) (by decide) rfl dX0_staysToWait_94
set_option maxHeartbeats 4000000 in
set_option maxRecDepth 100000 in
theorem w_X0_staysToWait_26 (G : JG) (d : Nat) (o : Nat) (t : Nat) (s : Nat) (ho : isClock o) (ht : isTown t) (hs : isState s) (k31 : Int32 → Int32 → Int32 → Mem → Option (Int32 × Mem)) (hk31 : ∀ (x3 : Int32) (x4 : Int32) (s0 : Int32) (σ : Mem), JO G mX0_staysToWait (d + 1) 31 [none, some (.ref (G.1 + off t)), some (.ref (G.1 + off s)), some (.int x3), some (.int x4), none, none, none] [.int s0] σ rI (k31 x3 x4 s0 σ)) : ∀ (x3 : Int32) (x4 : Int32) (σ : Mem), JO G mX0_staysToWait (d + 1) 26 [none, some (.ref (G.1 + off t)), some (.ref (G.1 + off s)), some (.int x3), some (.int x4), none, none, none] [] σ rI (X0_staysToWait_26 o t s k31 x3 x4 σ) := by
  intro x3 x4 σ
  unfold X0_staysToWait_26
  refine JO_iconst (pc := 26) (a := 1) dX0_staysToWait_26 (by decide) ?_
  refine JO_goto (pc := 27) (tgt := 31) dX0_staysToWait_27 (by decide) ?_
  exact JO_sub (l_sub_none (l_sub_some (l_sub_some (l_sub_some (l_sub_some (l_sub_none (l_sub_none (l_sub_none (l_sub_nil))))))))) (hk31 x3 x4 1 σ)
set_option maxHeartbeats 4000000 in
set_option maxRecDepth 100000 in
theorem w_X0_staysToWait_31 (G : JG) (d : Nat) (o : Nat) (t : Nat) (s : Nat) (ho : isClock o) (ht : isTown t) (hs : isState s) : ∀ (x3 : Int32) (x4 : Int32) (s0 : Int32) (σ : Mem), JO G mX0_staysToWait (d + 1) 31 [none, some (.ref (G.1 + off t)), some (.ref (G.1 + off s)), some (.int x3), some (.int x4), none, none, none] [.int s0] σ rI (X0_staysToWait_31 o t s x3 x4 s0 σ) := by
  intro x3 x4 s0 σ
  unfold X0_staysToWait_31
  refine JO_istore (pc := 31) (L' := [none, some (.ref (G.1 + off t)), some (.ref (G.1 + off s)), some (.int x3), some (.int x4), some (.int s0), none, none]) dX0_staysToWait_31 rfl rfl rfl ?_
  refine JO_iload (pc := 33) dX0_staysToWait_33 rfl ?_
  refine JO_if_eq (pc := 35) (tgt := 47) dX0_staysToWait_35 (by decide) ?_ ?_
  · refine JO_aload_n (pc := 47) dX0_staysToWait_47 rfl ?_
    refine JO_getR (pc := 48) fl_X0_86 rfl (fkTown_door ht) dX0_staysToWait_48 ?_
    refine JO_iload (pc := 51) dX0_staysToWait_51 rfl ?_
    refine JO_iald (pc := 53) (akTown_door ht) dX0_staysToWait_53 ?_
    exact JO_sub (l_sub_none (l_sub_some (l_sub_some (l_sub_some (l_sub_some (l_sub_some (l_sub_none (l_sub_none (l_sub_nil))))))))) (w_X0_staysToWait_54 G d o t s ho ht hs x3 x4 s0 (σ.1 (t + 1) x4.toNatClampNeg) σ)
  · refine JO_aload_n (pc := 38) dX0_staysToWait_38 rfl ?_
    refine JO_getR (pc := 39) fl_X0_86 rfl (fkTown_door ht) dX0_staysToWait_39 ?_
    refine JO_iload_n (pc := 42) dX0_staysToWait_42 rfl ?_
    refine JO_iald (pc := 43) (akTown_door ht) dX0_staysToWait_43 ?_
    refine JO_goto (pc := 44) (tgt := 54) dX0_staysToWait_44 (by decide) ?_
    exact JO_sub (l_sub_none (l_sub_some (l_sub_some (l_sub_some (l_sub_some (l_sub_some (l_sub_none (l_sub_none (l_sub_nil))))))))) (w_X0_staysToWait_54 G d o t s ho ht hs x3 x4 s0 (σ.1 (t + 1) x3.toNatClampNeg) σ)
set_option maxHeartbeats 4000000 in
set_option maxRecDepth 100000 in
theorem w_X0_staysToWait (G : JG) (d : Nat) (o : Nat) (t : Nat) (s : Nat) (ho : isClock o) (ht : isTown t) (hs : isState s) (x3 : Int32) (σ : Mem) : JS G mX0_staysToWait (d + 1) [.ref (G.1 + off o), .ref (G.1 + off t), .ref (G.1 + off s), .int x3] σ rI (X0_staysToWait o t s x3 σ) := by
  refine JS_of 4 (by decide +kernel) (Nat.le_of_ble_eq_true rfl) (L := [some (.ref (G.1 + off o)), some (.ref (G.1 + off t)), some (.ref (G.1 + off s)), some (.int x3), none, none, none, none]) rfl ?_
  unfold X0_staysToWait
  refine JO_aload_n (pc := 0) dX0_staysToWait_0 rfl ?_
  refine JO_getR (pc := 1) fl_X0_77 rfl (fkState_aim hs) dX0_staysToWait_1 ?_
  refine JO_iload_n (pc := 4) dX0_staysToWait_4 rfl ?_
  refine JO_iald (pc := 5) (akState_aim hs) dX0_staysToWait_5 ?_
  refine JO_nm (fun v1 => ?_)
  refine JO_istore (pc := 6) (L' := [some (.ref (G.1 + off o)), some (.ref (G.1 + off t)), some (.ref (G.1 + off s)), some (.int x3), some (.int v1), none, none, none]) dX0_staysToWait_6 rfl rfl rfl ?_
  refine JO_iload (pc := 8) dX0_staysToWait_8 rfl ?_
  refine JO_iconst (pc := 10) (a := (-1)) dX0_staysToWait_10 (by decide) ?_
  refine JO_icmp_eq (pc := 11) (tgt := 26) dX0_staysToWait_11 (by decide) ?_ ?_
  · exact JO_sub (l_sub_none (l_sub_some (l_sub_some (l_sub_some (l_sub_some (l_sub_none (l_sub_none (l_sub_none (l_sub_nil))))))))) (w_X0_staysToWait_26 G d o t s ho ht hs _ (w_X0_staysToWait_31 G d o t s ho ht hs) x3 v1 σ)
  · refine JO_aload_n (pc := 14) dX0_staysToWait_14 rfl ?_
    refine JO_iload_n (pc := 15) dX0_staysToWait_15 rfl ?_
    refine JO_aload_n (pc := 16) dX0_staysToWait_16 rfl ?_
    refine JO_getI (pc := 17) fl_X0_69 rfl (fkState_hour hs) dX0_staysToWait_17 ?_
    refine JO_callVi (pc := 20) [.int x3, .int (σ.1 s 6)] lk_X0_83 rfl (ci := 10) rfl (shTown ht) (w_X10_rests G d t ht x3 (σ.1 s 6) σ) rfl rfl (Nat.le_of_ble_eq_true rfl) dX0_staysToWait_20 (fun r2 => ?_)
    refine JO_if_eq (pc := 23) (tgt := 30) dX0_staysToWait_23 (by decide) ?_ ?_
    · refine JO_iconst (pc := 30) (a := 0) dX0_staysToWait_30 (by decide) ?_
      exact JO_sub (l_sub_none (l_sub_some (l_sub_some (l_sub_some (l_sub_some (l_sub_none (l_sub_none (l_sub_none (l_sub_nil))))))))) (w_X0_staysToWait_31 G d o t s ho ht hs x3 v1 0 r2.2)
    · exact JO_sub (l_sub_none (l_sub_some (l_sub_some (l_sub_some (l_sub_some (l_sub_none (l_sub_none (l_sub_none (l_sub_nil))))))))) (w_X0_staysToWait_26 G d o t s ho ht hs _ (w_X0_staysToWait_31 G d o t s ho ht hs) x3 v1 r2.2)
set_option maxHeartbeats 4000000 in
set_option maxRecDepth 100000 in
theorem w_J7_fill_53178_5 (G : JG) (d : Nat) (a : Nat) (al : Nat) (ha : akind SH a = some (0, al)) : ∀ (n : Nat) (x1 : Int32) (x2 : Int32) (x3 : Int32) (σ : Mem), JO G mJ7_fill_53178 d 5 [some (.ref (G.1 + off a)), some (.int x1), some (.int x2), some (.int x3)] [] σ rV (J7_fill_53178_5 a al n x1 x2 x3 σ) := by
  intro n
  induction n with
  | zero =>
    intro x1 x2 x3 σ
    exact JO_none
  | succ n ih =>
    intro x1 x2 x3 σ
    rw [J7_fill_53178_5]
    refine JO_iload_n (pc := 5) dJ7_fill_53178_5 rfl ?_
    refine JO_iload_n (pc := 6) dJ7_fill_53178_6 rfl ?_
    refine JO_icmp_ge (pc := 7) (tgt := 20) dJ7_fill_53178_7 (by decide) ?_ ?_
    · exact JO_retv (pc := 20) rfl dJ7_fill_53178_20
    · refine JO_aload_n (pc := 10) dJ7_fill_53178_10 rfl ?_
      refine JO_iload_n (pc := 11) dJ7_fill_53178_11 rfl ?_
      refine JO_iload_n (pc := 12) dJ7_fill_53178_12 rfl ?_
      refine JO_iast (pc := 13) ha dJ7_fill_53178_13 (fun σ3 => ?_)
      refine JO_inc (pc := 14) (b := 1) (L' := fun v4 => [some (.ref (G.1 + off a)), some (.int x1), some (.int v4), some (.int x3)]) dJ7_fill_53178_14 rfl rfl (by decide) rfl (fun _ => rfl) (fun v4 => ?_)
      refine JO_goto (pc := 17) (tgt := 5) dJ7_fill_53178_17 (by decide) ?_
      exact JO_sub (l_sub_some (l_sub_some (l_sub_some (l_sub_some (l_sub_nil))))) (ih x1 v4 x3 σ3)
set_option maxHeartbeats 4000000 in
set_option maxRecDepth 100000 in
theorem w_J7_fill_53178 (G : JG) (d : Nat) (a : Nat) (al : Nat) (ha : akind SH a = some (0, al)) (x1 : Int32) (σ : Mem) : JS G mJ7_fill_53178 d [.ref (G.1 + off a), .int x1] σ rV (J7_fill_53178 a al x1 σ) := by
  refine JS_of 2 (by decide +kernel) (Nat.le_of_ble_eq_true rfl) (L := [some (.ref (G.1 + off a)), some (.int x1), none, none]) rfl ?_
  unfold J7_fill_53178
  refine JO_iconst (pc := 0) (a := 0) dJ7_fill_53178_0 (by decide) ?_
  refine JO_nm (fun v1 => ?_)
  refine JO_istore_n (pc := 1) (L' := [some (.ref (G.1 + off a)), some (.int x1), some (.int v1), none]) dJ7_fill_53178_1 rfl rfl rfl ?_
  refine JO_aload_n (pc := 2) dJ7_fill_53178_2 rfl ?_
  refine JO_alen (pc := 3) ha (by decide) rfl dJ7_fill_53178_3 ?_
  refine JO_nm (fun v2 => ?_)
  refine JO_istore_n (pc := 4) (L' := [some (.ref (G.1 + off a)), some (.int x1), some (.int v1), some (.int v2)]) dJ7_fill_53178_4 rfl rfl rfl ?_
  exact JO_sub (l_sub_some (l_sub_some (l_sub_some (l_sub_some (l_sub_nil))))) (w_J7_fill_53178_5 G d a al ha fu x1 v1 v2 σ)
set_option maxHeartbeats 4000000 in
set_option maxRecDepth 100000 in
theorem w_X0_isWaiting (G : JG) (d : Nat) (x0 : Int32) (x1 : Int32) (σ : Mem) : JS G mX0_isWaiting d [.int x0, .int x1] σ rI (X0_isWaiting x0 x1 σ) := by
  refine JS_of 0 (by decide +kernel) (Nat.le_of_ble_eq_true rfl) (L := [some (.int x0), some (.int x1)]) rfl ?_
  unfold X0_isWaiting
  refine JO_iload_n (pc := 0) dX0_isWaiting_0 rfl ?_
  refine JO_iload_n (pc := 1) dX0_isWaiting_1 rfl ?_
  refine JO_ishr (pc := 2) dX0_isWaiting_2 ?_
  refine JO_iconst (pc := 3) (a := 1) dX0_isWaiting_3 (by decide) ?_
  refine JO_iand (pc := 4) dX0_isWaiting_4 ?_
  refine JO_if_eq (pc := 5) (tgt := 12) dX0_isWaiting_5 (by decide) ?_ ?_
  · refine JO_iconst (pc := 12) (a := 0) dX0_isWaiting_12 (by decide) ?_
    exact JO_retzc (pc := 13) (by decide) rfl dX0_isWaiting_13
  · refine JO_iconst (pc := 8) (a := 1) dX0_isWaiting_8 (by decide) ?_
    refine JO_goto (pc := 9) (tgt := 13) dX0_isWaiting_9 (by decide) ?_
    exact JO_retzc (pc := 13) (by decide) rfl dX0_isWaiting_13
set_option maxHeartbeats 4000000 in
set_option maxRecDepth 100000 in
theorem w_X0_seats_79 (G : JG) (d : Nat) (o : Nat) (t : Nat) (s : Nat) (ho : isClock o) (ht : isTown t) (hs : isState s) (k90 : Int32 → Int32 → Int32 → Mem → Option (Int32 × Mem)) (hk90 : ∀ (x3 : Int32) (x4 : Int32) (x5 : Int32) (σ : Mem), JO G mX0_seats (d + 1) 90 [some (.ref (G.1 + off o)), some (.ref (G.1 + off t)), some (.ref (G.1 + off s)), some (.int x3), some (.int x4), some (.int x5), none] [] σ rI (k90 x3 x4 x5 σ)) : ∀ (x3 : Int32) (x4 : Int32) (x5 : Int32) (x6 : Int32) (σ : Mem), JO G mX0_seats (d + 1) 79 [some (.ref (G.1 + off o)), some (.ref (G.1 + off t)), some (.ref (G.1 + off s)), some (.int x3), some (.int x4), some (.int x5), some (.int x6)] [] σ rI (X0_seats_79 o t s k90 x3 x4 x5 x6 σ) := by
  intro x3 x4 x5 x6 σ
  unfold X0_seats_79
  refine JO_aload_n (pc := 79) dX0_seats_79 rfl ?_
  refine JO_getR (pc := 80) fl_X0_17 rfl (fkClock_crowd ho) dX0_seats_80 ?_
  refine JO_iload (pc := 83) dX0_seats_83 rfl ?_
  refine JO_dup2 (pc := 85) dX0_seats_85 rfl rfl ?_
  refine JO_iald (pc := 86) (akClock_crowd ho) dX0_seats_86 ?_
  refine JO_iconst (pc := 87) (a := 1) dX0_seats_87 (by decide) ?_
  refine JO_iadd (pc := 88) dX0_seats_88 ?_
  refine JO_iast (pc := 89) (akClock_crowd ho) dX0_seats_89 (fun σ9 => ?_)
  exact JO_sub (l_sub_some (l_sub_some (l_sub_some (l_sub_some (l_sub_some (l_sub_some (l_sub_none (l_sub_nil)))))))) (hk90 x3 x4 x5 σ9)
set_option maxHeartbeats 4000000 in
set_option maxRecDepth 100000 in
theorem w_X0_seats_90 (G : JG) (d : Nat) (o : Nat) (t : Nat) (s : Nat) (ho : isClock o) (ht : isTown t) (hs : isState s) (k14 : Int32 → Int32 → Int32 → Mem → Option (Int32 × Mem)) (hk14 : ∀ (x3 : Int32) (x4 : Int32) (x5 : Int32) (σ : Mem), JO G mX0_seats (d + 1) 14 [some (.ref (G.1 + off o)), some (.ref (G.1 + off t)), some (.ref (G.1 + off s)), some (.int x3), some (.int x4), some (.int x5), none] [] σ rI (k14 x3 x4 x5 σ)) : ∀ (x3 : Int32) (x4 : Int32) (x5 : Int32) (σ : Mem), JO G mX0_seats (d + 1) 90 [some (.ref (G.1 + off o)), some (.ref (G.1 + off t)), some (.ref (G.1 + off s)), some (.int x3), some (.int x4), some (.int x5), none] [] σ rI (X0_seats_90 o t s k14 x3 x4 x5 σ) := by
  intro x3 x4 x5 σ
  unfold X0_seats_90
  refine JO_inc (pc := 90) (b := 1) (L' := fun v8 => [some (.ref (G.1 + off o)), some (.ref (G.1 + off t)), some (.ref (G.1 + off s)), some (.int x3), some (.int x4), some (.int v8), none]) dX0_seats_90 rfl rfl (by decide) rfl (fun _ => rfl) (fun v8 => ?_)
  refine JO_goto (pc := 93) (tgt := 14) dX0_seats_93 (by decide) ?_
  exact JO_sub (l_sub_some (l_sub_some (l_sub_some (l_sub_some (l_sub_some (l_sub_some (l_sub_none (l_sub_nil)))))))) (hk14 x3 x4 v8 σ)
set_option maxHeartbeats 4000000 in
set_option maxRecDepth 100000 in
theorem w_X0_seats_14 (G : JG) (d : Nat) (o : Nat) (t : Nat) (s : Nat) (ho : isClock o) (ht : isTown t) (hs : isState s) : ∀ (n : Nat) (x3 : Int32) (x4 : Int32) (x5 : Int32) (σ : Mem), JO G mX0_seats (d + 1) 14 [some (.ref (G.1 + off o)), some (.ref (G.1 + off t)), some (.ref (G.1 + off s)), some (.int x3), some (.int x4), some (.int x5), none] [] σ rI (X0_seats_14 o t s n x3 x4 x5 σ) := by
  intro n
  induction n with
  | zero =>
    intro x3 x4 x5 σ
    exact JO_none
  | succ n ih =>
    intro x3 x4 x5 σ
    rw [X0_seats_14]
    refine JO_iload (pc := 14) dX0_seats_14 rfl ?_
    refine JO_aload_n (pc := 16) dX0_seats_16 rfl ?_
    refine JO_getI (pc := 17) fl_X0_38 rfl (fkTown_people ht) dX0_seats_17 ?_
    refine JO_icmp_ge (pc := 20) (tgt := 96) dX0_seats_20 (by decide) ?_ ?_
    · refine JO_iload (pc := 96) dX0_seats_96 rfl ?_
      exact JO_reti (pc := 98) rfl dX0_seats_98
    · refine JO_iload_n (pc := 23) dX0_seats_23 rfl ?_
      refine JO_iload (pc := 24) dX0_seats_24 rfl ?_
      refine JO_callSi (pc := 26) [.int x3, .int x5] lk_X0_98 rfl (w_X0_isWaiting G d x3 x5 σ) rfl rfl (Nat.le_of_ble_eq_true rfl) dX0_seats_26 (fun r4 => ?_)
      refine JO_if_eq (pc := 29) (tgt := 90) dX0_seats_29 (by decide) ?_ ?_
      · exact JO_sub (l_sub_some (l_sub_some (l_sub_some (l_sub_some (l_sub_some (l_sub_some (l_sub_none (l_sub_nil)))))))) (w_X0_seats_90 G d o t s ho ht hs _ (ih) x3 x4 x5 r4.2)
      · refine JO_iload_n (pc := 32) dX0_seats_32 rfl ?_
        refine JO_iload (pc := 33) dX0_seats_33 rfl ?_
        refine JO_callSi (pc := 35) [.int x3, .int x5] lk_X0_44 rfl (w_X0_isMeeting G d x3 x5 r4.2) rfl rfl (Nat.le_of_ble_eq_true rfl) dX0_seats_35 (fun r5 => ?_)
        refine JO_if_ne (pc := 38) (tgt := 90) dX0_seats_38 (by decide) ?_ ?_
        · exact JO_sub (l_sub_some (l_sub_some (l_sub_some (l_sub_some (l_sub_some (l_sub_some (l_sub_none (l_sub_nil)))))))) (w_X0_seats_90 G d o t s ho ht hs _ (ih) x3 x4 x5 r5.2)
        · refine JO_aload_n (pc := 41) dX0_seats_41 rfl ?_
          refine JO_getR (pc := 42) fl_X0_77 rfl (fkState_aim hs) dX0_seats_42 ?_
          refine JO_iload (pc := 45) dX0_seats_45 rfl ?_
          refine JO_iald (pc := 47) (akState_aim hs) dX0_seats_47 ?_
          refine JO_nm (fun v6 => ?_)
          refine JO_istore (pc := 48) (L' := [some (.ref (G.1 + off o)), some (.ref (G.1 + off t)), some (.ref (G.1 + off s)), some (.int x3), some (.int x4), some (.int x5), some (.int v6)]) dX0_seats_48 rfl rfl rfl ?_
          refine JO_aload_n (pc := 50) dX0_seats_50 rfl ?_
          refine JO_getR (pc := 51) fl_X0_17 rfl (fkClock_crowd ho) dX0_seats_51 ?_
          refine JO_iload (pc := 54) dX0_seats_54 rfl ?_
          refine JO_iald (pc := 56) (akClock_crowd ho) dX0_seats_56 ?_
          refine JO_aload_n (pc := 57) dX0_seats_57 rfl ?_
          refine JO_getR (pc := 58) fl_X0_101 rfl (fkTown_chairs ht) dX0_seats_58 ?_
          refine JO_iload (pc := 61) dX0_seats_61 rfl ?_
          refine JO_iald (pc := 63) (akTown_chairs ht) dX0_seats_63 ?_
          refine JO_icmp_ge (pc := 64) (tgt := 79) dX0_seats_64 (by decide) ?_ ?_
          · exact JO_sub (l_sub_some (l_sub_some (l_sub_some (l_sub_some (l_sub_some (l_sub_some (l_sub_some (l_sub_nil)))))))) (w_X0_seats_79 G d o t s ho ht hs _ (w_X0_seats_90 G d o t s ho ht hs _ (ih)) x3 x4 x5 v6 r5.2)
          · refine JO_iload (pc := 67) dX0_seats_67 rfl ?_
            refine JO_iconst (pc := 69) (a := 1) dX0_seats_69 (by decide) ?_
            refine JO_bipush (pc := 70) (a := 12) dX0_seats_70 (by decide) ?_
            refine JO_iload (pc := 72) dX0_seats_72 rfl ?_
            refine JO_iadd (pc := 74) dX0_seats_74 ?_
            refine JO_ishl (pc := 75) dX0_seats_75 ?_
            refine JO_ior (pc := 76) dX0_seats_76 ?_
            refine JO_nm (fun v7 => ?_)
            refine JO_istore (pc := 77) (L' := [some (.ref (G.1 + off o)), some (.ref (G.1 + off t)), some (.ref (G.1 + off s)), some (.int x3), some (.int v7), some (.int x5), some (.int v6)]) dX0_seats_77 rfl rfl rfl ?_
            exact JO_sub (l_sub_some (l_sub_some (l_sub_some (l_sub_some (l_sub_some (l_sub_some (l_sub_some (l_sub_nil)))))))) (w_X0_seats_79 G d o t s ho ht hs _ (w_X0_seats_90 G d o t s ho ht hs _ (ih)) x3 v7 x5 v6 r5.2)
set_option maxHeartbeats 4000000 in
set_option maxRecDepth 100000 in
theorem w_X0_seats (G : JG) (d : Nat) (o : Nat) (t : Nat) (s : Nat) (ho : isClock o) (ht : isTown t) (hs : isState s) (x3 : Int32) (σ : Mem) : JS G mX0_seats (d + 1) [.ref (G.1 + off o), .ref (G.1 + off t), .ref (G.1 + off s), .int x3] σ rI (X0_seats o t s x3 σ) := by
  refine JS_of 3 (by decide +kernel) (Nat.le_of_ble_eq_true rfl) (L := [some (.ref (G.1 + off o)), some (.ref (G.1 + off t)), some (.ref (G.1 + off s)), some (.int x3), none, none, none]) rfl ?_
  unfold X0_seats
  refine JO_iconst (pc := 0) (a := 0) dX0_seats_0 (by decide) ?_
  refine JO_nm (fun v1 => ?_)
  refine JO_istore (pc := 1) (L' := [some (.ref (G.1 + off o)), some (.ref (G.1 + off t)), some (.ref (G.1 + off s)), some (.int x3), some (.int v1), none, none]) dX0_seats_1 rfl rfl rfl ?_
  refine JO_aload_n (pc := 3) dX0_seats_3 rfl ?_
  refine JO_getR (pc := 4) fl_X0_17 rfl (fkClock_crowd ho) dX0_seats_4 ?_
  refine JO_iconst (pc := 7) (a := 0) dX0_seats_7 (by decide) ?_
  refine JO_callSv (pc := 8) [.ref (G.1 + off (o + 2)), .int 0] lk_X0_92 rfl (w_J7_fill_53178 G d (o + 2) 6 (akClock_crowd ho) 0 σ) rfl rfl (Nat.le_of_ble_eq_true rfl) dX0_seats_8 (fun σ2 => ?_)
  refine JO_iconst (pc := 11) (a := 0) dX0_seats_11 (by decide) ?_
  refine JO_nm (fun v3 => ?_)
  refine JO_istore (pc := 12) (L' := [some (.ref (G.1 + off o)), some (.ref (G.1 + off t)), some (.ref (G.1 + off s)), some (.int x3), some (.int v1), some (.int v3), none]) dX0_seats_12 rfl rfl rfl ?_
  exact JO_sub (l_sub_some (l_sub_some (l_sub_some (l_sub_some (l_sub_some (l_sub_some (l_sub_none (l_sub_nil)))))))) (w_X0_seats_14 G d o t s ho ht hs fu x3 v1 v3 σ2)
set_option maxHeartbeats 4000000 in
set_option maxRecDepth 100000 in
theorem w_X2_value_312 (G : JG) (d : Nat) (o : Nat) (a : Nat) (al : Nat) (ho : isForm o) (ha : akind SH a = some (0, al)) (k448 : Int32 → Int32 → Mem → Option (Int32 × Mem)) (hk448 : ∀ (x2 : Int32) (x3 : Int32) (σ : Mem), JO G mX2_value d 448 [some (.ref (G.1 + off o)), some (.ref (G.1 + off a)), some (.int x2), some (.int x3), none, none, none] [] σ rI (k448 x2 x3 σ)) : ∀ (x2 : Int32) (x3 : Int32) (s0 : Int32) (s1 : Int32) (σ : Mem), JO G mX2_value d 312 [some (.ref (G.1 + off o)), some (.ref (G.1 + off a)), some (.int x2), some (.int x3), none, none, none] [.int s0, .int s1, .ref (G.1 + off (o + 3))] σ rI (X2_value_312 o a al k448 x2 x3 s0 s1 σ) := by
  intro x2 x3 s0 s1 σ
  unfold X2_value_312
  refine JO_iast (pc := 312) (akForm_stack ho) dX2_value_312 (fun σ16 => ?_)
  refine JO_goto (pc := 313) (tgt := 448) dX2_value_313 (by decide) ?_
  exact JO_sub (l_sub_some (l_sub_some (l_sub_some (l_sub_some (l_sub_none (l_sub_none (l_sub_none (l_sub_nil)))))))) (hk448 x2 x3 σ16)
set_option maxHeartbeats 4000000 in
set_option maxRecDepth 100000 in
theorem w_X2_value_354 (G : JG) (d : Nat) (o : Nat) (a : Nat) (al : Nat) (ho : isForm o) (ha : akind SH a = some (0, al)) (k448 : Int32 → Int32 → Mem → Option (Int32 × Mem)) (hk448 : ∀ (x2 : Int32) (x3 : Int32) (σ : Mem), JO G mX2_value d 448 [some (.ref (G.1 + off o)), some (.ref (G.1 + off a)), some (.int x2), some (.int x3), none, none, none] [] σ rI (k448 x2 x3 σ)) : ∀ (x2 : Int32) (x3 : Int32) (s0 : Int32) (s1 : Int32) (σ : Mem), JO G mX2_value d 354 [some (.ref (G.1 + off o)), some (.ref (G.1 + off a)), some (.int x2), some (.int x3), none, none, none] [.int s0, .int s1, .ref (G.1 + off (o + 3))] σ rI (X2_value_354 o a al k448 x2 x3 s0 s1 σ) := by
  intro x2 x3 s0 s1 σ
  unfold X2_value_354
  refine JO_iast (pc := 354) (akForm_stack ho) dX2_value_354 (fun σ17 => ?_)
  refine JO_goto (pc := 355) (tgt := 448) dX2_value_355 (by decide) ?_
  exact JO_sub (l_sub_some (l_sub_some (l_sub_some (l_sub_some (l_sub_none (l_sub_none (l_sub_none (l_sub_nil)))))))) (hk448 x2 x3 σ17)
set_option maxHeartbeats 4000000 in
set_option maxRecDepth 100000 in
theorem w_X2_value_333 (G : JG) (d : Nat) (o : Nat) (a : Nat) (al : Nat) (ho : isForm o) (ha : akind SH a = some (0, al)) (k448 : Int32 → Int32 → Mem → Option (Int32 × Mem)) (hk448 : ∀ (x2 : Int32) (x3 : Int32) (σ : Mem), JO G mX2_value d 448 [some (.ref (G.1 + off o)), some (.ref (G.1 + off a)), some (.int x2), some (.int x3), none, none, none] [] σ rI (k448 x2 x3 σ)) : ∀ (x2 : Int32) (x3 : Int32) (s0 : Int32) (s1 : Int32) (σ : Mem), JO G mX2_value d 333 [some (.ref (G.1 + off o)), some (.ref (G.1 + off a)), some (.int x2), some (.int x3), none, none, none] [.int s0, .int s1, .ref (G.1 + off (o + 3))] σ rI (X2_value_333 o a al k448 x2 x3 s0 s1 σ) := by
  intro x2 x3 s0 s1 σ
  unfold X2_value_333
  refine JO_iast (pc := 333) (akForm_stack ho) dX2_value_333 (fun σ18 => ?_)
  refine JO_goto (pc := 334) (tgt := 448) dX2_value_334 (by decide) ?_
  exact JO_sub (l_sub_some (l_sub_some (l_sub_some (l_sub_some (l_sub_none (l_sub_none (l_sub_none (l_sub_nil)))))))) (hk448 x2 x3 σ18)
set_option maxHeartbeats 4000000 in
set_option maxRecDepth 100000 in
theorem w_X2_value_442 (G : JG) (d : Nat) (o : Nat) (a : Nat) (al : Nat) (ho : isForm o) (ha : akind SH a = some (0, al)) (k448 : Int32 → Int32 → Mem → Option (Int32 × Mem)) (hk448 : ∀ (x2 : Int32) (x3 : Int32) (σ : Mem), JO G mX2_value d 448 [some (.ref (G.1 + off o)), some (.ref (G.1 + off a)), some (.int x2), some (.int x3), none, none, none] [] σ rI (k448 x2 x3 σ)) : ∀ (x2 : Int32) (x3 : Int32) (s0 : Int32) (s1 : Int32) (σ : Mem), JO G mX2_value d 442 [some (.ref (G.1 + off o)), some (.ref (G.1 + off a)), some (.int x2), some (.int x3), none, none, none] [.int s0, .int s1, .ref (G.1 + off (o + 3))] σ rI (X2_value_442 o a al k448 x2 x3 s0 s1 σ) := by
  intro x2 x3 s0 s1 σ
  unfold X2_value_442
  refine JO_iast (pc := 442) (akForm_stack ho) dX2_value_442 (fun σ14 => ?_)
  refine JO_goto (pc := 443) (tgt := 448) dX2_value_443 (by decide) ?_
  exact JO_sub (l_sub_some (l_sub_some (l_sub_some (l_sub_some (l_sub_none (l_sub_none (l_sub_none (l_sub_nil)))))))) (hk448 x2 x3 σ14)
set_option maxHeartbeats 4000000 in
set_option maxRecDepth 100000 in
theorem w_X2_value_419 (G : JG) (d : Nat) (o : Nat) (a : Nat) (al : Nat) (ho : isForm o) (ha : akind SH a = some (0, al)) (k448 : Int32 → Int32 → Mem → Option (Int32 × Mem)) (hk448 : ∀ (x2 : Int32) (x3 : Int32) (σ : Mem), JO G mX2_value d 448 [some (.ref (G.1 + off o)), some (.ref (G.1 + off a)), some (.int x2), some (.int x3), none, none, none] [] σ rI (k448 x2 x3 σ)) : ∀ (x2 : Int32) (x3 : Int32) (s0 : Int32) (s1 : Int32) (σ : Mem), JO G mX2_value d 419 [some (.ref (G.1 + off o)), some (.ref (G.1 + off a)), some (.int x2), some (.int x3), none, none, none] [.int s0, .int s1, .ref (G.1 + off (o + 3))] σ rI (X2_value_419 o a al k448 x2 x3 s0 s1 σ) := by
  intro x2 x3 s0 s1 σ
  unfold X2_value_419
  refine JO_iast (pc := 419) (akForm_stack ho) dX2_value_419 (fun σ15 => ?_)
  refine JO_goto (pc := 420) (tgt := 448) dX2_value_420 (by decide) ?_
  exact JO_sub (l_sub_some (l_sub_some (l_sub_some (l_sub_some (l_sub_none (l_sub_none (l_sub_none (l_sub_nil)))))))) (hk448 x2 x3 σ15)
set_option maxHeartbeats 4000000 in
set_option maxRecDepth 100000 in
theorem w_X2_value_286 (G : JG) (d : Nat) (o : Nat) (a : Nat) (al : Nat) (ho : isForm o) (ha : akind SH a = some (0, al)) (k291 : Int32 → Int32 → Int32 → Int32 → Mem → Option (Int32 × Mem)) (hk291 : ∀ (x2 : Int32) (x3 : Int32) (s0 : Int32) (s1 : Int32) (σ : Mem), JO G mX2_value d 291 [some (.ref (G.1 + off o)), some (.ref (G.1 + off a)), some (.int x2), some (.int x3), none, none, none] [.int s0, .int s1, .ref (G.1 + off (o + 3))] σ rI (k291 x2 x3 s0 s1 σ)) : ∀ (x2 : Int32) (x3 : Int32) (s0 : Int32) (σ : Mem), JO G mX2_value d 286 [some (.ref (G.1 + off o)), some (.ref (G.1 + off a)), some (.int x2), some (.int x3), none, none, none] [.int s0, .ref (G.1 + off (o + 3))] σ rI (X2_value_286 o a al k291 x2 x3 s0 σ) := by
  intro x2 x3 s0 σ
  unfold X2_value_286
  refine JO_iconst (pc := 286) (a := 1) dX2_value_286 (by decide) ?_
  refine JO_goto (pc := 287) (tgt := 291) dX2_value_287 (by decide) ?_
  exact JO_sub (l_sub_some (l_sub_some (l_sub_some (l_sub_some (l_sub_none (l_sub_none (l_sub_none (l_sub_nil)))))))) (hk291 x2 x3 1 s0 σ)
set_option maxHeartbeats 4000000 in
set_option maxRecDepth 100000 in
theorem w_X2_value_291 (G : JG) (d : Nat) (o : Nat) (a : Nat) (al : Nat) (ho : isForm o) (ha : akind SH a = some (0, al)) (k448 : Int32 → Int32 → Mem → Option (Int32 × Mem)) (hk448 : ∀ (x2 : Int32) (x3 : Int32) (σ : Mem), JO G mX2_value d 448 [some (.ref (G.1 + off o)), some (.ref (G.1 + off a)), some (.int x2), some (.int x3), none, none, none] [] σ rI (k448 x2 x3 σ)) : ∀ (x2 : Int32) (x3 : Int32) (s0 : Int32) (s1 : Int32) (σ : Mem), JO G mX2_value d 291 [some (.ref (G.1 + off o)), some (.ref (G.1 + off a)), some (.int x2), some (.int x3), none, none, none] [.int s0, .int s1, .ref (G.1 + off (o + 3))] σ rI (X2_value_291 o a al k448 x2 x3 s0 s1 σ) := by
  intro x2 x3 s0 s1 σ
  unfold X2_value_291
  refine JO_iast (pc := 291) (akForm_stack ho) dX2_value_291 (fun σ19 => ?_)
  refine JO_goto (pc := 292) (tgt := 448) dX2_value_292 (by decide) ?_
  exact JO_sub (l_sub_some (l_sub_some (l_sub_some (l_sub_some (l_sub_none (l_sub_none (l_sub_none (l_sub_nil)))))))) (hk448 x2 x3 σ19)
set_option maxHeartbeats 4000000 in
set_option maxRecDepth 100000 in
theorem w_X2_value_266 (G : JG) (d : Nat) (o : Nat) (a : Nat) (al : Nat) (ho : isForm o) (ha : akind SH a = some (0, al)) (k267 : Int32 → Int32 → Int32 → Int32 → Mem → Option (Int32 × Mem)) (hk267 : ∀ (x2 : Int32) (x3 : Int32) (s0 : Int32) (s1 : Int32) (σ : Mem), JO G mX2_value d 267 [some (.ref (G.1 + off o)), some (.ref (G.1 + off a)), some (.int x2), some (.int x3), none, none, none] [.int s0, .int s1, .ref (G.1 + off (o + 3))] σ rI (k267 x2 x3 s0 s1 σ)) : ∀ (x2 : Int32) (x3 : Int32) (s0 : Int32) (σ : Mem), JO G mX2_value d 266 [some (.ref (G.1 + off o)), some (.ref (G.1 + off a)), some (.int x2), some (.int x3), none, none, none] [.int s0, .ref (G.1 + off (o + 3))] σ rI (X2_value_266 o a al k267 x2 x3 s0 σ) := by
  intro x2 x3 s0 σ
  unfold X2_value_266
  refine JO_iconst (pc := 266) (a := 0) dX2_value_266 (by decide) ?_
  exact JO_sub (l_sub_some (l_sub_some (l_sub_some (l_sub_some (l_sub_none (l_sub_none (l_sub_none (l_sub_nil)))))))) (hk267 x2 x3 0 s0 σ)
set_option maxHeartbeats 4000000 in
set_option maxRecDepth 100000 in
theorem w_X2_value_267 (G : JG) (d : Nat) (o : Nat) (a : Nat) (al : Nat) (ho : isForm o) (ha : akind SH a = some (0, al)) (k448 : Int32 → Int32 → Mem → Option (Int32 × Mem)) (hk448 : ∀ (x2 : Int32) (x3 : Int32) (σ : Mem), JO G mX2_value d 448 [some (.ref (G.1 + off o)), some (.ref (G.1 + off a)), some (.int x2), some (.int x3), none, none, none] [] σ rI (k448 x2 x3 σ)) : ∀ (x2 : Int32) (x3 : Int32) (s0 : Int32) (s1 : Int32) (σ : Mem), JO G mX2_value d 267 [some (.ref (G.1 + off o)), some (.ref (G.1 + off a)), some (.int x2), some (.int x3), none, none, none] [.int s0, .int s1, .ref (G.1 + off (o + 3))] σ rI (X2_value_267 o a al k448 x2 x3 s0 s1 σ) := by
  intro x2 x3 s0 s1 σ
  unfold X2_value_267
  refine JO_iast (pc := 267) (akForm_stack ho) dX2_value_267 (fun σ20 => ?_)
  refine JO_goto (pc := 268) (tgt := 448) dX2_value_268 (by decide) ?_
  exact JO_sub (l_sub_some (l_sub_some (l_sub_some (l_sub_some (l_sub_none (l_sub_none (l_sub_none (l_sub_nil)))))))) (hk448 x2 x3 σ20)
set_option maxHeartbeats 4000000 in
set_option maxRecDepth 100000 in
theorem w_X2_value_243 (G : JG) (d : Nat) (o : Nat) (a : Nat) (al : Nat) (ho : isForm o) (ha : akind SH a = some (0, al)) (k448 : Int32 → Int32 → Mem → Option (Int32 × Mem)) (hk448 : ∀ (x2 : Int32) (x3 : Int32) (σ : Mem), JO G mX2_value d 448 [some (.ref (G.1 + off o)), some (.ref (G.1 + off a)), some (.int x2), some (.int x3), none, none, none] [] σ rI (k448 x2 x3 σ)) : ∀ (x2 : Int32) (x3 : Int32) (s0 : Int32) (s1 : Int32) (σ : Mem), JO G mX2_value d 243 [some (.ref (G.1 + off o)), some (.ref (G.1 + off a)), some (.int x2), some (.int x3), none, none, none] [.int s0, .int s1, .ref (G.1 + off (o + 3))] σ rI (X2_value_243 o a al k448 x2 x3 s0 s1 σ) := by
  intro x2 x3 s0 s1 σ
  unfold X2_value_243
  refine JO_iast (pc := 243) (akForm_stack ho) dX2_value_243 (fun σ21 => ?_)
  refine JO_goto (pc := 244) (tgt := 448) dX2_value_244 (by decide) ?_
  exact JO_sub (l_sub_some (l_sub_some (l_sub_some (l_sub_some (l_sub_none (l_sub_none (l_sub_none (l_sub_nil)))))))) (hk448 x2 x3 σ21)
set_option maxHeartbeats 4000000 in
set_option maxRecDepth 100000 in
theorem w_X2_value_448 (G : JG) (d : Nat) (o : Nat) (a : Nat) (al : Nat) (ho : isForm o) (ha : akind SH a = some (0, al)) (k4 : Int32 → Int32 → Mem → Option (Int32 × Mem)) (hk4 : ∀ (x2 : Int32) (x3 : Int32) (σ : Mem), JO G mX2_value d 4 [some (.ref (G.1 + off o)), some (.ref (G.1 + off a)), some (.int x2), some (.int x3), none, none, none] [] σ rI (k4 x2 x3 σ)) : ∀ (x2 : Int32) (x3 : Int32) (σ : Mem), JO G mX2_value d 448 [some (.ref (G.1 + off o)), some (.ref (G.1 + off a)), some (.int x2), some (.int x3), none, none, none] [] σ rI (X2_value_448 o a al k4 x2 x3 σ) := by
  intro x2 x3 σ
  unfold X2_value_448
  refine JO_inc (pc := 448) (b := 1) (L' := fun v13 => [some (.ref (G.1 + off o)), some (.ref (G.1 + off a)), some (.int x2), some (.int v13), none, none, none]) dX2_value_448 rfl rfl (by decide) rfl (fun _ => rfl) (fun v13 => ?_)
  refine JO_goto (pc := 451) (tgt := 4) dX2_value_451 (by decide) ?_
  exact JO_sub (l_sub_some (l_sub_some (l_sub_some (l_sub_some (l_sub_none (l_sub_none (l_sub_none (l_sub_nil)))))))) (hk4 x2 v13 σ)
set_option maxHeartbeats 4000000 in
set_option maxRecDepth 100000 in
theorem w_X2_value_33 (G : JG) (d : Nat) (o : Nat) (a : Nat) (al : Nat) (ho : isForm o) (ha : akind SH a = some (0, al)) (k49 : Int32 → Int32 → Int32 → Mem → Option (Int32 × Mem)) (hk49 : ∀ (x2 : Int32) (x3 : Int32) (x4 : Int32) (σ : Mem), JO G mX2_value d 49 [some (.ref (G.1 + off o)), some (.ref (G.1 + off a)), some (.int x2), some (.int x3), some (.int x4), none, none] [] σ rI (k49 x2 x3 x4 σ)) : ∀ (x2 : Int32) (x3 : Int32) (x4 : Int32) (σ : Mem), JO G mX2_value d 33 [some (.ref (G.1 + off o)), some (.ref (G.1 + off a)), some (.int x2), some (.int x3), some (.int x4), none, none] [] σ rI (X2_value_33 o a al k49 x2 x3 x4 σ) := by
  intro x2 x3 x4 σ
  unfold X2_value_33
  refine JO_inc (pc := 33) (b := 1) (L' := fun v5 => [some (.ref (G.1 + off o)), some (.ref (G.1 + off a)), some (.int v5), some (.int x3), some (.int x4), none, none]) dX2_value_33 rfl rfl (by decide) rfl (fun _ => rfl) (fun v5 => ?_)
  refine JO_goto (pc := 36) (tgt := 49) dX2_value_36 (by decide) ?_
  exact JO_sub (l_sub_some (l_sub_some (l_sub_some (l_sub_some (l_sub_some (l_sub_none (l_sub_none (l_sub_nil)))))))) (hk49 v5 x3 x4 σ)
set_option maxHeartbeats 4000000 in
set_option maxRecDepth 100000 in
theorem w_X2_value_49 (G : JG) (d : Nat) (o : Nat) (a : Nat) (al : Nat) (ho : isForm o) (ha : akind SH a = some (0, al)) (k4 : Int32 → Int32 → Mem → Option (Int32 × Mem)) (hk4 : ∀ (x2 : Int32) (x3 : Int32) (σ : Mem), JO G mX2_value d 4 [some (.ref (G.1 + off o)), some (.ref (G.1 + off a)), some (.int x2), some (.int x3), none, none, none] [] σ rI (k4 x2 x3 σ)) : ∀ (x2 : Int32) (x3 : Int32) (x4 : Int32) (σ : Mem), JO G mX2_value d 49 [some (.ref (G.1 + off o)), some (.ref (G.1 + off a)), some (.int x2), some (.int x3), some (.int x4), none, none] [] σ rI (X2_value_49 o a al k4 x2 x3 x4 σ) := by
  intro x2 x3 x4 σ
  unfold X2_value_49
  refine JO_iload_n (pc := 49) dX2_value_49 rfl ?_
  refine JO_iconst (pc := 50) (a := 1) dX2_value_50 (by decide) ?_
  refine JO_icmp_lt (pc := 51) (tgt := 60) dX2_value_51 (by decide) ?_ ?_
  · refine JO_iconst (pc := 60) (a := 0) dX2_value_60 (by decide) ?_
    exact JO_reti (pc := 61) rfl dX2_value_61
  · refine JO_iload_n (pc := 54) dX2_value_54 rfl ?_
    refine JO_bipush (pc := 55) (a := 30) dX2_value_55 (by decide) ?_
    refine JO_icmp_le (pc := 57) (tgt := 62) dX2_value_57 (by decide) ?_ ?_
    · refine JO_aload_n (pc := 62) dX2_value_62 rfl ?_
      refine JO_getR (pc := 63) fl_X2_18 rfl (fkForm_stack ho) dX2_value_63 ?_
      refine JO_iload_n (pc := 66) dX2_value_66 rfl ?_
      refine JO_iald (pc := 67) (akForm_stack ho) dX2_value_67 ?_
      refine JO_nm (fun v6 => ?_)
      refine JO_istore (pc := 68) (L' := [some (.ref (G.1 + off o)), some (.ref (G.1 + off a)), some (.int x2), some (.int x3), some (.int x4), some (.int v6), none]) dX2_value_68 rfl rfl rfl ?_
      refine JO_aload_n (pc := 70) dX2_value_70 rfl ?_
      refine JO_getR (pc := 71) fl_X2_18 rfl (fkForm_stack ho) dX2_value_71 ?_
      refine JO_iload_n (pc := 74) dX2_value_74 rfl ?_
      refine JO_iconst (pc := 75) (a := 1) dX2_value_75 (by decide) ?_
      refine JO_iadd (pc := 76) dX2_value_76 ?_
      refine JO_iald (pc := 77) (akForm_stack ho) dX2_value_77 ?_
      refine JO_nm (fun v7 => ?_)
      refine JO_istore (pc := 78) (L' := [some (.ref (G.1 + off o)), some (.ref (G.1 + off a)), some (.int x2), some (.int x3), some (.int x4), some (.int v6), some (.int v7)]) dX2_value_78 rfl rfl rfl ?_
      refine JO_iload (pc := 80) dX2_value_80 rfl ?_
      refine JO_ite (fun hc2 => ?_) (fun hc2 => ?_)
      · rw [hc2]
        refine JO_look (pc := 82) (tgt := 196) (off' := 114) dX2_value_82 (by decide) (by decide) (by decide) ?_
        refine JO_aload_n (pc := 196) dX2_value_196 rfl ?_
        refine JO_getR (pc := 197) fl_X2_18 rfl (fkForm_stack ho) dX2_value_197 ?_
        refine JO_iload_n (pc := 200) dX2_value_200 rfl ?_
        refine JO_aload_n (pc := 201) dX2_value_201 rfl ?_
        refine JO_getR (pc := 202) fl_X2_15 rfl (fkForm_operand ho) dX2_value_202 ?_
        refine JO_iload_n (pc := 205) dX2_value_205 rfl ?_
        refine JO_iald (pc := 206) (akForm_operand ho) dX2_value_206 ?_
        refine JO_iast (pc := 207) (akForm_stack ho) dX2_value_207 (fun σ8 => ?_)
        refine JO_goto (pc := 208) (tgt := 448) dX2_value_208 (by decide) ?_
        exact JO_sub (l_sub_some (l_sub_some (l_sub_some (l_sub_some (l_sub_none (l_sub_none (l_sub_none (l_sub_nil)))))))) (w_X2_value_448 G d o a al ho ha _ (hk4) x2 x3 σ8)
      refine JO_ite (fun hc37 => ?_) (fun hc37 => ?_)
      · rw [hc37]
        refine JO_look (pc := 82) (tgt := 423) (off' := 341) dX2_value_82 (by decide) (by decide) (by decide) ?_
        refine JO_aload_n (pc := 423) dX2_value_423 rfl ?_
        refine JO_getR (pc := 424) fl_X2_18 rfl (fkForm_stack ho) dX2_value_424 ?_
        refine JO_iload_n (pc := 427) dX2_value_427 rfl ?_
        refine JO_iload (pc := 428) dX2_value_428 rfl ?_
        refine JO_if_ne (pc := 430) (tgt := 437) dX2_value_430 (by decide) ?_ ?_
        · refine JO_iload (pc := 437) dX2_value_437 rfl ?_
          refine JO_iload (pc := 439) dX2_value_439 rfl ?_
          refine JO_irem (pc := 441) dX2_value_441 ?_
          exact JO_sub (l_sub_some (l_sub_some (l_sub_some (l_sub_some (l_sub_none (l_sub_none (l_sub_none (l_sub_nil)))))))) (w_X2_value_442 G d o a al ho ha _ (w_X2_value_448 G d o a al ho ha _ (hk4)) x2 x3 (v6 - v6 / v7 * v7) x2 σ)
        · refine JO_iconst (pc := 433) (a := 0) dX2_value_433 (by decide) ?_
          refine JO_goto (pc := 434) (tgt := 442) dX2_value_434 (by decide) ?_
          exact JO_sub (l_sub_some (l_sub_some (l_sub_some (l_sub_some (l_sub_none (l_sub_none (l_sub_none (l_sub_nil)))))))) (w_X2_value_442 G d o a al ho ha _ (w_X2_value_448 G d o a al ho ha _ (hk4)) x2 x3 0 x2 σ)
      refine JO_ite (fun hc42 => ?_) (fun hc42 => ?_)
      · rw [hc42]
        refine JO_look (pc := 82) (tgt := 386) (off' := 304) dX2_value_82 (by decide) (by decide) (by decide) ?_
        refine JO_aload_n (pc := 386) dX2_value_386 rfl ?_
        refine JO_getR (pc := 387) fl_X2_18 rfl (fkForm_stack ho) dX2_value_387 ?_
        refine JO_iload_n (pc := 390) dX2_value_390 rfl ?_
        refine JO_iload (pc := 391) dX2_value_391 rfl ?_
        refine JO_iload (pc := 393) dX2_value_393 rfl ?_
        refine JO_imul (pc := 395) dX2_value_395 ?_
        refine JO_iast (pc := 396) (akForm_stack ho) dX2_value_396 (fun σ9 => ?_)
        refine JO_goto (pc := 397) (tgt := 448) dX2_value_397 (by decide) ?_
        exact JO_sub (l_sub_some (l_sub_some (l_sub_some (l_sub_some (l_sub_none (l_sub_none (l_sub_none (l_sub_nil)))))))) (w_X2_value_448 G d o a al ho ha _ (hk4) x2 x3 σ9)
      refine JO_ite (fun hc43 => ?_) (fun hc43 => ?_)
      · rw [hc43]
        refine JO_look (pc := 82) (tgt := 358) (off' := 276) dX2_value_82 (by decide) (by decide) (by decide) ?_
        refine JO_aload_n (pc := 358) dX2_value_358 rfl ?_
        refine JO_getR (pc := 359) fl_X2_18 rfl (fkForm_stack ho) dX2_value_359 ?_
        refine JO_iload_n (pc := 362) dX2_value_362 rfl ?_
        refine JO_iload (pc := 363) dX2_value_363 rfl ?_
        refine JO_iload (pc := 365) dX2_value_365 rfl ?_
        refine JO_iadd (pc := 367) dX2_value_367 ?_
        refine JO_iast (pc := 368) (akForm_stack ho) dX2_value_368 (fun σ10 => ?_)
        refine JO_goto (pc := 369) (tgt := 448) dX2_value_369 (by decide) ?_
        exact JO_sub (l_sub_some (l_sub_some (l_sub_some (l_sub_some (l_sub_none (l_sub_none (l_sub_none (l_sub_nil)))))))) (w_X2_value_448 G d o a al ho ha _ (hk4) x2 x3 σ10)
      refine JO_ite (fun hc45 => ?_) (fun hc45 => ?_)
      · rw [hc45]
        refine JO_look (pc := 82) (tgt := 372) (off' := 290) dX2_value_82 (by decide) (by decide) (by decide) ?_
        refine JO_aload_n (pc := 372) dX2_value_372 rfl ?_
        refine JO_getR (pc := 373) fl_X2_18 rfl (fkForm_stack ho) dX2_value_373 ?_
        refine JO_iload_n (pc := 376) dX2_value_376 rfl ?_
        refine JO_iload (pc := 377) dX2_value_377 rfl ?_
        refine JO_iload (pc := 379) dX2_value_379 rfl ?_
        refine JO_isub (pc := 381) dX2_value_381 ?_
        refine JO_iast (pc := 382) (akForm_stack ho) dX2_value_382 (fun σ11 => ?_)
        refine JO_goto (pc := 383) (tgt := 448) dX2_value_383 (by decide) ?_
        exact JO_sub (l_sub_some (l_sub_some (l_sub_some (l_sub_some (l_sub_none (l_sub_none (l_sub_none (l_sub_nil)))))))) (w_X2_value_448 G d o a al ho ha _ (hk4) x2 x3 σ11)
      refine JO_ite (fun hc47 => ?_) (fun hc47 => ?_)
      · rw [hc47]
        refine JO_look (pc := 82) (tgt := 400) (off' := 318) dX2_value_82 (by decide) (by decide) (by decide) ?_
        refine JO_aload_n (pc := 400) dX2_value_400 rfl ?_
        refine JO_getR (pc := 401) fl_X2_18 rfl (fkForm_stack ho) dX2_value_401 ?_
        refine JO_iload_n (pc := 404) dX2_value_404 rfl ?_
        refine JO_iload (pc := 405) dX2_value_405 rfl ?_
        refine JO_if_ne (pc := 407) (tgt := 414) dX2_value_407 (by decide) ?_ ?_
        · refine JO_iload (pc := 414) dX2_value_414 rfl ?_
          refine JO_iload (pc := 416) dX2_value_416 rfl ?_
          refine JO_idiv (pc := 418) dX2_value_418 ?_
          exact JO_sub (l_sub_some (l_sub_some (l_sub_some (l_sub_some (l_sub_none (l_sub_none (l_sub_none (l_sub_nil)))))))) (w_X2_value_419 G d o a al ho ha _ (w_X2_value_448 G d o a al ho ha _ (hk4)) x2 x3 (v6 / v7) x2 σ)
        · refine JO_iconst (pc := 410) (a := 0) dX2_value_410 (by decide) ?_
          refine JO_goto (pc := 411) (tgt := 419) dX2_value_411 (by decide) ?_
          exact JO_sub (l_sub_some (l_sub_some (l_sub_some (l_sub_some (l_sub_none (l_sub_none (l_sub_none (l_sub_nil)))))))) (w_X2_value_419 G d o a al ho ha _ (w_X2_value_448 G d o a al ho ha _ (hk4)) x2 x3 0 x2 σ)
      refine JO_ite (fun hc60 => ?_) (fun hc60 => ?_)
      · rw [hc60]
        refine JO_look (pc := 82) (tgt := 295) (off' := 213) dX2_value_82 (by decide) (by decide) (by decide) ?_
        refine JO_aload_n (pc := 295) dX2_value_295 rfl ?_
        refine JO_getR (pc := 296) fl_X2_18 rfl (fkForm_stack ho) dX2_value_296 ?_
        refine JO_iload_n (pc := 299) dX2_value_299 rfl ?_
        refine JO_iload (pc := 300) dX2_value_300 rfl ?_
        refine JO_iload (pc := 302) dX2_value_302 rfl ?_
        refine JO_icmp_ge (pc := 304) (tgt := 311) dX2_value_304 (by decide) ?_ ?_
        · refine JO_iconst (pc := 311) (a := 0) dX2_value_311 (by decide) ?_
          exact JO_sub (l_sub_some (l_sub_some (l_sub_some (l_sub_some (l_sub_none (l_sub_none (l_sub_none (l_sub_nil)))))))) (w_X2_value_312 G d o a al ho ha _ (w_X2_value_448 G d o a al ho ha _ (hk4)) x2 x3 0 x2 σ)
        · refine JO_iconst (pc := 307) (a := 1) dX2_value_307 (by decide) ?_
          refine JO_goto (pc := 308) (tgt := 312) dX2_value_308 (by decide) ?_
          exact JO_sub (l_sub_some (l_sub_some (l_sub_some (l_sub_some (l_sub_none (l_sub_none (l_sub_none (l_sub_nil)))))))) (w_X2_value_312 G d o a al ho ha _ (w_X2_value_448 G d o a al ho ha _ (hk4)) x2 x3 1 x2 σ)
      refine JO_ite (fun hc61 => ?_) (fun hc61 => ?_)
      · rw [hc61]
        refine JO_look (pc := 82) (tgt := 337) (off' := 255) dX2_value_82 (by decide) (by decide) (by decide) ?_
        refine JO_aload_n (pc := 337) dX2_value_337 rfl ?_
        refine JO_getR (pc := 338) fl_X2_18 rfl (fkForm_stack ho) dX2_value_338 ?_
        refine JO_iload_n (pc := 341) dX2_value_341 rfl ?_
        refine JO_iload (pc := 342) dX2_value_342 rfl ?_
        refine JO_iload (pc := 344) dX2_value_344 rfl ?_
        refine JO_icmp_ne (pc := 346) (tgt := 353) dX2_value_346 (by decide) ?_ ?_
        · refine JO_iconst (pc := 353) (a := 0) dX2_value_353 (by decide) ?_
          exact JO_sub (l_sub_some (l_sub_some (l_sub_some (l_sub_some (l_sub_none (l_sub_none (l_sub_none (l_sub_nil)))))))) (w_X2_value_354 G d o a al ho ha _ (w_X2_value_448 G d o a al ho ha _ (hk4)) x2 x3 0 x2 σ)
        · refine JO_iconst (pc := 349) (a := 1) dX2_value_349 (by decide) ?_
          refine JO_goto (pc := 350) (tgt := 354) dX2_value_350 (by decide) ?_
          exact JO_sub (l_sub_some (l_sub_some (l_sub_some (l_sub_some (l_sub_none (l_sub_none (l_sub_none (l_sub_nil)))))))) (w_X2_value_354 G d o a al ho ha _ (w_X2_value_448 G d o a al ho ha _ (hk4)) x2 x3 1 x2 σ)
      refine JO_ite (fun hc62 => ?_) (fun hc62 => ?_)
      · rw [hc62]
        refine JO_look (pc := 82) (tgt := 316) (off' := 234) dX2_value_82 (by decide) (by decide) (by decide) ?_
        refine JO_aload_n (pc := 316) dX2_value_316 rfl ?_
        refine JO_getR (pc := 317) fl_X2_18 rfl (fkForm_stack ho) dX2_value_317 ?_
        refine JO_iload_n (pc := 320) dX2_value_320 rfl ?_
        refine JO_iload (pc := 321) dX2_value_321 rfl ?_
        refine JO_iload (pc := 323) dX2_value_323 rfl ?_
        refine JO_icmp_le (pc := 325) (tgt := 332) dX2_value_325 (by decide) ?_ ?_
        · refine JO_iconst (pc := 332) (a := 0) dX2_value_332 (by decide) ?_
          exact JO_sub (l_sub_some (l_sub_some (l_sub_some (l_sub_some (l_sub_none (l_sub_none (l_sub_none (l_sub_nil)))))))) (w_X2_value_333 G d o a al ho ha _ (w_X2_value_448 G d o a al ho ha _ (hk4)) x2 x3 0 x2 σ)
        · refine JO_iconst (pc := 328) (a := 1) dX2_value_328 (by decide) ?_
          refine JO_goto (pc := 329) (tgt := 333) dX2_value_329 (by decide) ?_
          exact JO_sub (l_sub_some (l_sub_some (l_sub_some (l_sub_some (l_sub_none (l_sub_none (l_sub_none (l_sub_nil)))))))) (w_X2_value_333 G d o a al ho ha _ (w_X2_value_448 G d o a al ho ha _ (hk4)) x2 x3 1 x2 σ)
      refine JO_ite (fun hc113 => ?_) (fun hc113 => ?_)
      · rw [hc113]
        refine JO_look (pc := 82) (tgt := 271) (off' := 189) dX2_value_82 (by decide) (by decide) (by decide) ?_
        refine JO_aload_n (pc := 271) dX2_value_271 rfl ?_
        refine JO_getR (pc := 272) fl_X2_18 rfl (fkForm_stack ho) dX2_value_272 ?_
        refine JO_iload_n (pc := 275) dX2_value_275 rfl ?_
        refine JO_iload (pc := 276) dX2_value_276 rfl ?_
        refine JO_if_ne (pc := 278) (tgt := 286) dX2_value_278 (by decide) ?_ ?_
        · exact JO_sub (l_sub_some (l_sub_some (l_sub_some (l_sub_some (l_sub_none (l_sub_none (l_sub_none (l_sub_nil)))))))) (w_X2_value_286 G d o a al ho ha _ (w_X2_value_291 G d o a al ho ha _ (w_X2_value_448 G d o a al ho ha _ (hk4))) x2 x3 x2 σ)
        · refine JO_iload (pc := 281) dX2_value_281 rfl ?_
          refine JO_if_eq (pc := 283) (tgt := 290) dX2_value_283 (by decide) ?_ ?_
          · refine JO_iconst (pc := 290) (a := 0) dX2_value_290 (by decide) ?_
            exact JO_sub (l_sub_some (l_sub_some (l_sub_some (l_sub_some (l_sub_none (l_sub_none (l_sub_none (l_sub_nil)))))))) (w_X2_value_291 G d o a al ho ha _ (w_X2_value_448 G d o a al ho ha _ (hk4)) x2 x3 0 x2 σ)
          · exact JO_sub (l_sub_some (l_sub_some (l_sub_some (l_sub_some (l_sub_none (l_sub_none (l_sub_none (l_sub_nil)))))))) (w_X2_value_286 G d o a al ho ha _ (w_X2_value_291 G d o a al ho ha _ (w_X2_value_448 G d o a al ho ha _ (hk4))) x2 x3 x2 σ)
      refine JO_ite (fun hc114 => ?_) (fun hc114 => ?_)
      · rw [hc114]
        refine JO_look (pc := 82) (tgt := 247) (off' := 165) dX2_value_82 (by decide) (by decide) (by decide) ?_
        refine JO_aload_n (pc := 247) dX2_value_247 rfl ?_
        refine JO_getR (pc := 248) fl_X2_18 rfl (fkForm_stack ho) dX2_value_248 ?_
        refine JO_iload_n (pc := 251) dX2_value_251 rfl ?_
        refine JO_iload (pc := 252) dX2_value_252 rfl ?_
        refine JO_if_eq (pc := 254) (tgt := 266) dX2_value_254 (by decide) ?_ ?_
        · exact JO_sub (l_sub_some (l_sub_some (l_sub_some (l_sub_some (l_sub_none (l_sub_none (l_sub_none (l_sub_nil)))))))) (w_X2_value_266 G d o a al ho ha _ (w_X2_value_267 G d o a al ho ha _ (w_X2_value_448 G d o a al ho ha _ (hk4))) x2 x3 x2 σ)
        · refine JO_iload (pc := 257) dX2_value_257 rfl ?_
          refine JO_if_eq (pc := 259) (tgt := 266) dX2_value_259 (by decide) ?_ ?_
          · exact JO_sub (l_sub_some (l_sub_some (l_sub_some (l_sub_some (l_sub_none (l_sub_none (l_sub_none (l_sub_nil)))))))) (w_X2_value_266 G d o a al ho ha _ (w_X2_value_267 G d o a al ho ha _ (w_X2_value_448 G d o a al ho ha _ (hk4))) x2 x3 x2 σ)
          · refine JO_iconst (pc := 262) (a := 1) dX2_value_262 (by decide) ?_
            refine JO_goto (pc := 263) (tgt := 267) dX2_value_263 (by decide) ?_
            exact JO_sub (l_sub_some (l_sub_some (l_sub_some (l_sub_some (l_sub_none (l_sub_none (l_sub_none (l_sub_nil)))))))) (w_X2_value_267 G d o a al ho ha _ (w_X2_value_448 G d o a al ho ha _ (hk4)) x2 x3 1 x2 σ)
      refine JO_ite (fun hc115 => ?_) (fun hc115 => ?_)
      · rw [hc115]
        refine JO_look (pc := 82) (tgt := 228) (off' := 146) dX2_value_82 (by decide) (by decide) (by decide) ?_
        refine JO_aload_n (pc := 228) dX2_value_228 rfl ?_
        refine JO_getR (pc := 229) fl_X2_18 rfl (fkForm_stack ho) dX2_value_229 ?_
        refine JO_iload_n (pc := 232) dX2_value_232 rfl ?_
        refine JO_iload (pc := 233) dX2_value_233 rfl ?_
        refine JO_if_ne (pc := 235) (tgt := 242) dX2_value_235 (by decide) ?_ ?_
        · refine JO_iconst (pc := 242) (a := 0) dX2_value_242 (by decide) ?_
          exact JO_sub (l_sub_some (l_sub_some (l_sub_some (l_sub_some (l_sub_none (l_sub_none (l_sub_none (l_sub_nil)))))))) (w_X2_value_243 G d o a al ho ha _ (w_X2_value_448 G d o a al ho ha _ (hk4)) x2 x3 0 x2 σ)
        · refine JO_iconst (pc := 238) (a := 1) dX2_value_238 (by decide) ?_
          refine JO_goto (pc := 239) (tgt := 243) dX2_value_239 (by decide) ?_
          exact JO_sub (l_sub_some (l_sub_some (l_sub_some (l_sub_some (l_sub_none (l_sub_none (l_sub_none (l_sub_nil)))))))) (w_X2_value_243 G d o a al ho ha _ (w_X2_value_448 G d o a al ho ha _ (hk4)) x2 x3 1 x2 σ)
      refine JO_ite (fun hc116 => ?_) (fun hc116 => ?_)
      · rw [hc116]
        refine JO_look (pc := 82) (tgt := 211) (off' := 129) dX2_value_82 (by decide) (by decide) (by decide) ?_
        refine JO_aload_n (pc := 211) dX2_value_211 rfl ?_
        refine JO_getR (pc := 212) fl_X2_18 rfl (fkForm_stack ho) dX2_value_212 ?_
        refine JO_iload_n (pc := 215) dX2_value_215 rfl ?_
        refine JO_aload_n (pc := 216) dX2_value_216 rfl ?_
        refine JO_aload_n (pc := 217) dX2_value_217 rfl ?_
        refine JO_getR (pc := 218) fl_X2_15 rfl (fkForm_operand ho) dX2_value_218 ?_
        refine JO_iload_n (pc := 221) dX2_value_221 rfl ?_
        refine JO_iald (pc := 222) (akForm_operand ho) dX2_value_222 ?_
        refine JO_iald (pc := 223) ha dX2_value_223 ?_
        refine JO_iast (pc := 224) (akForm_stack ho) dX2_value_224 (fun σ12 => ?_)
        refine JO_goto (pc := 225) (tgt := 448) dX2_value_225 (by decide) ?_
        exact JO_sub (l_sub_some (l_sub_some (l_sub_some (l_sub_some (l_sub_none (l_sub_none (l_sub_none (l_sub_nil)))))))) (w_X2_value_448 G d o a al ho ha _ (hk4) x2 x3 σ12)
      have z2 : x4.toInt ≠ 2 := ne_toInt hc2
      have z37 : x4.toInt ≠ 37 := ne_toInt hc37
      have z42 : x4.toInt ≠ 42 := ne_toInt hc42
      have z43 : x4.toInt ≠ 43 := ne_toInt hc43
      have z45 : x4.toInt ≠ 45 := ne_toInt hc45
      have z47 : x4.toInt ≠ 47 := ne_toInt hc47
      have z60 : x4.toInt ≠ 60 := ne_toInt hc60
      have z61 : x4.toInt ≠ 61 := ne_toInt hc61
      have z62 : x4.toInt ≠ 62 := ne_toInt hc62
      have z113 : x4.toInt ≠ 113 := ne_toInt hc113
      have z114 : x4.toInt ≠ 114 := ne_toInt hc114
      have z115 : x4.toInt ≠ 115 := ne_toInt hc115
      have z116 : x4.toInt ≠ 116 := ne_toInt hc116
      refine JO_look (pc := 82) (tgt := 446) (off' := 364) dX2_value_82 (by decide) (by simp [Op.lookupswitch.offset, z2, z37, z42, z43, z45, z47, z60, z61, z62, z113, z114, z115, z116, Ne.symm z2, Ne.symm z37, Ne.symm z42, Ne.symm z43, Ne.symm z45, Ne.symm z47, Ne.symm z60, Ne.symm z61, Ne.symm z62, Ne.symm z113, Ne.symm z114, Ne.symm z115, Ne.symm z116]) (by decide) ?_
      refine JO_iconst (pc := 446) (a := 0) dX2_value_446 (by decide) ?_
      exact JO_reti (pc := 447) rfl dX2_value_447
    · refine JO_iconst (pc := 60) (a := 0) dX2_value_60 (by decide) ?_
      exact JO_reti (pc := 61) rfl dX2_value_61
set_option maxHeartbeats 4000000 in
set_option maxRecDepth 100000 in
theorem w_X2_value_4 (G : JG) (d : Nat) (o : Nat) (a : Nat) (al : Nat) (ho : isForm o) (ha : akind SH a = some (0, al)) : ∀ (n : Nat) (x2 : Int32) (x3 : Int32) (σ : Mem), JO G mX2_value d 4 [some (.ref (G.1 + off o)), some (.ref (G.1 + off a)), some (.int x2), some (.int x3), none, none, none] [] σ rI (X2_value_4 o a al n x2 x3 σ) := by
  intro n
  induction n with
  | zero =>
    intro x2 x3 σ
    exact JO_none
  | succ n ih =>
    intro x2 x3 σ
    rw [X2_value_4]
    refine JO_iload_n (pc := 4) dX2_value_4 rfl ?_
    refine JO_aload_n (pc := 5) dX2_value_5 rfl ?_
    refine JO_getI (pc := 6) fl_X2_24 rfl (fkForm_length ho) dX2_value_6 ?_
    refine JO_icmp_ge (pc := 9) (tgt := 454) dX2_value_9 (by decide) ?_ ?_
    · refine JO_aload_n (pc := 454) dX2_value_454 rfl ?_
      refine JO_getR (pc := 455) fl_X2_18 rfl (fkForm_stack ho) dX2_value_455 ?_
      refine JO_iload_n (pc := 458) dX2_value_458 rfl ?_
      refine JO_iald (pc := 459) (akForm_stack ho) dX2_value_459 ?_
      exact JO_reti (pc := 460) rfl dX2_value_460
    · refine JO_aload_n (pc := 12) dX2_value_12 rfl ?_
      refine JO_getR (pc := 13) fl_X2_11 rfl (fkForm_operation ho) dX2_value_13 ?_
      refine JO_iload_n (pc := 16) dX2_value_16 rfl ?_
      refine JO_iald (pc := 17) (akForm_operation ho) dX2_value_17 ?_
      refine JO_nm (fun v3 => ?_)
      refine JO_istore (pc := 18) (L' := [some (.ref (G.1 + off o)), some (.ref (G.1 + off a)), some (.int x2), some (.int x3), some (.int v3), none, none]) dX2_value_18 rfl rfl rfl ?_
      refine JO_iload (pc := 20) dX2_value_20 rfl ?_
      refine JO_iconst (pc := 22) (a := 2) dX2_value_22 (by decide) ?_
      refine JO_icmp_eq (pc := 23) (tgt := 33) dX2_value_23 (by decide) ?_ ?_
      · exact JO_sub (l_sub_some (l_sub_some (l_sub_some (l_sub_some (l_sub_some (l_sub_none (l_sub_none (l_sub_nil)))))))) (w_X2_value_33 G d o a al ho ha _ (w_X2_value_49 G d o a al ho ha _ (ih)) x2 x3 v3 σ)
      · refine JO_iload (pc := 26) dX2_value_26 rfl ?_
        refine JO_bipush (pc := 28) (a := 116) dX2_value_28 (by decide) ?_
        refine JO_icmp_ne (pc := 30) (tgt := 39) dX2_value_30 (by decide) ?_ ?_
        · refine JO_iload (pc := 39) dX2_value_39 rfl ?_
          refine JO_bipush (pc := 41) (a := 115) dX2_value_41 (by decide) ?_
          refine JO_icmp_eq (pc := 43) (tgt := 49) dX2_value_43 (by decide) ?_ ?_
          · exact JO_sub (l_sub_some (l_sub_some (l_sub_some (l_sub_some (l_sub_some (l_sub_none (l_sub_none (l_sub_nil)))))))) (w_X2_value_49 G d o a al ho ha _ (ih) x2 x3 v3 σ)
          · refine JO_inc (pc := 46) (b := (-1)) (L' := fun v4 => [some (.ref (G.1 + off o)), some (.ref (G.1 + off a)), some (.int v4), some (.int x3), some (.int v3), none, none]) dX2_value_46 rfl rfl (by decide) rfl (fun _ => rfl) (fun v4 => ?_)
            exact JO_sub (l_sub_some (l_sub_some (l_sub_some (l_sub_some (l_sub_some (l_sub_none (l_sub_none (l_sub_nil)))))))) (w_X2_value_49 G d o a al ho ha _ (ih) v4 x3 v3 σ)
        · exact JO_sub (l_sub_some (l_sub_some (l_sub_some (l_sub_some (l_sub_some (l_sub_none (l_sub_none (l_sub_nil)))))))) (w_X2_value_33 G d o a al ho ha _ (w_X2_value_49 G d o a al ho ha _ (ih)) x2 x3 v3 σ)
set_option maxHeartbeats 4000000 in
set_option maxRecDepth 100000 in
theorem w_X2_value (G : JG) (d : Nat) (o : Nat) (a : Nat) (al : Nat) (ho : isForm o) (ha : akind SH a = some (0, al)) (σ : Mem) : JS G mX2_value d [.ref (G.1 + off o), .ref (G.1 + off a)] σ rI (X2_value o a al σ) := by
  refine JS_of 5 (by decide +kernel) (Nat.le_of_ble_eq_true rfl) (L := [some (.ref (G.1 + off o)), some (.ref (G.1 + off a)), none, none, none, none, none]) rfl ?_
  unfold X2_value
  refine JO_iconst (pc := 0) (a := 0) dX2_value_0 (by decide) ?_
  refine JO_nm (fun v1 => ?_)
  refine JO_istore_n (pc := 1) (L' := [some (.ref (G.1 + off o)), some (.ref (G.1 + off a)), some (.int v1), none, none, none, none]) dX2_value_1 rfl rfl rfl ?_
  refine JO_iconst (pc := 2) (a := 0) dX2_value_2 (by decide) ?_
  refine JO_nm (fun v2 => ?_)
  refine JO_istore_n (pc := 3) (L' := [some (.ref (G.1 + off o)), some (.ref (G.1 + off a)), some (.int v1), some (.int v2), none, none, none]) dX2_value_3 rfl rfl rfl ?_
  exact JO_sub (l_sub_some (l_sub_some (l_sub_some (l_sub_some (l_sub_none (l_sub_none (l_sub_none (l_sub_nil)))))))) (w_X2_value_4 G d o a al ho ha fu v1 v2 σ)
set_option maxHeartbeats 4000000 in
set_option maxRecDepth 100000 in
theorem w_X0_wetness (G : JG) (d : Nat) (o : Nat) (t : Nat) (ho : isClock o) (ht : isTown t) (x2 : Int32) (x3 : Int32) (σ : Mem) : JS G mX0_wetness (d + 1) [.ref (G.1 + off o), .ref (G.1 + off t), .int x2, .int x3] σ rI (X0_wetness o t x2 x3 σ) := by
  refine JS_of 0 (by decide +kernel) (Nat.le_of_ble_eq_true rfl) (L := [some (.ref (G.1 + off o)), some (.ref (G.1 + off t)), some (.int x2), some (.int x3)]) rfl ?_
  unfold X0_wetness
  refine JO_aload_n (pc := 0) dX0_wetness_0 rfl ?_
  refine JO_getR (pc := 1) fl_X0_11 rfl (fkClock_given ho) dX0_wetness_1 ?_
  refine JO_iconst (pc := 4) (a := 0) dX0_wetness_4 (by decide) ?_
  refine JO_callSv (pc := 5) [.ref (G.1 + off (o + 1)), .int 0] lk_X0_92 rfl (w_J7_fill_53178 G d (o + 1) 7 (akClock_given ho) 0 σ) rfl rfl (Nat.le_of_ble_eq_true rfl) dX0_wetness_5 (fun σ1 => ?_)
  refine JO_aload_n (pc := 8) dX0_wetness_8 rfl ?_
  refine JO_getR (pc := 9) fl_X0_11 rfl (fkClock_given ho) dX0_wetness_9 ?_
  refine JO_iconst (pc := 12) (a := 1) dX0_wetness_12 (by decide) ?_
  refine JO_iload_n (pc := 13) dX0_wetness_13 rfl ?_
  refine JO_iastc (pc := 14) (k := 1) (akClock_given ho) (by decide) (by decide) dX0_wetness_14 (fun σ2 => ?_)
  refine JO_aload_n (pc := 15) dX0_wetness_15 rfl ?_
  refine JO_getR (pc := 16) fl_X0_11 rfl (fkClock_given ho) dX0_wetness_16 ?_
  refine JO_iconst (pc := 19) (a := 2) dX0_wetness_19 (by decide) ?_
  refine JO_iload_n (pc := 20) dX0_wetness_20 rfl ?_
  refine JO_iastc (pc := 21) (k := 2) (akClock_given ho) (by decide) (by decide) dX0_wetness_21 (fun σ3 => ?_)
  refine JO_aload_n (pc := 22) dX0_wetness_22 rfl ?_
  refine JO_getR (pc := 23) fl_X0_161 rfl (fkTown_rain ht) dX0_wetness_23 ?_
  refine JO_getI (pc := 26) fl_X0_118 rfl (fkForm_isTold (inTown_rain ht)) dX0_wetness_26 ?_
  refine JO_if_eq (pc := 29) (tgt := 50) dX0_wetness_29 (by decide) ?_ ?_
  · refine JO_iconst (pc := 50) (a := 0) dX0_wetness_50 (by decide) ?_
    exact JO_reti (pc := 51) rfl dX0_wetness_51
  · refine JO_aload_n (pc := 32) dX0_wetness_32 rfl ?_
    refine JO_getR (pc := 33) fl_X0_161 rfl (fkTown_rain ht) dX0_wetness_33 ?_
    refine JO_aload_n (pc := 36) dX0_wetness_36 rfl ?_
    refine JO_getR (pc := 37) fl_X0_11 rfl (fkClock_given ho) dX0_wetness_37 ?_
    refine JO_callVi (pc := 40) [.ref (G.1 + off (o + 1))] lk_X0_121 rfl (ci := 2) rfl (shForm (inTown_rain ht)) (w_X2_value G d (t + 19) (o + 1) 7 (inTown_rain ht) (akClock_given ho) σ3) rfl rfl (Nat.le_of_ble_eq_true rfl) dX0_wetness_40 (fun r4 => ?_)
    refine JO_if_eq (pc := 43) (tgt := 50) dX0_wetness_43 (by decide) ?_ ?_
    · refine JO_iconst (pc := 50) (a := 0) dX0_wetness_50 (by decide) ?_
      exact JO_reti (pc := 51) rfl dX0_wetness_51
    · refine JO_iconst (pc := 46) (a := 1) dX0_wetness_46 (by decide) ?_
      refine JO_goto (pc := 47) (tgt := 51) dX0_wetness_47 (by decide) ?_
      exact JO_reti (pc := 51) rfl dX0_wetness_51
set_option maxHeartbeats 4000000 in
set_option maxRecDepth 100000 in
theorem w_X0_call_46 (G : JG) (d : Nat) (o : Nat) (t : Nat) (s : Nat) (ho : isClock o) (ht : isTown t) (hs : isState s) (k10 : Int32 → Int32 → Mem → Option (Int32 × Mem)) (hk10 : ∀ (x3 : Int32) (x4 : Int32) (σ : Mem), JO G mX0_call (d + 2) 10 [some (.ref (G.1 + off o)), some (.ref (G.1 + off t)), some (.ref (G.1 + off s)), some (.int x3), some (.int x4)] [] σ rI (k10 x3 x4 σ)) : ∀ (x3 : Int32) (x4 : Int32) (σ : Mem), JO G mX0_call (d + 2) 46 [some (.ref (G.1 + off o)), some (.ref (G.1 + off t)), some (.ref (G.1 + off s)), some (.int x3), some (.int x4)] [] σ rI (X0_call_46 o t s k10 x3 x4 σ) := by
  intro x3 x4 σ
  unfold X0_call_46
  refine JO_inc (pc := 46) (b := 1) (L' := fun v11 => [some (.ref (G.1 + off o)), some (.ref (G.1 + off t)), some (.ref (G.1 + off s)), some (.int x3), some (.int v11)]) dX0_call_46 rfl rfl (by decide) rfl (fun _ => rfl) (fun v11 => ?_)
  refine JO_goto (pc := 49) (tgt := 10) dX0_call_49 (by decide) ?_
  exact JO_sub (l_sub_some (l_sub_some (l_sub_some (l_sub_some (l_sub_some (l_sub_nil)))))) (hk10 x3 v11 σ)
set_option maxHeartbeats 4000000 in
set_option maxRecDepth 100000 in
theorem w_X0_call_10 (G : JG) (d : Nat) (o : Nat) (t : Nat) (s : Nat) (ho : isClock o) (ht : isTown t) (hs : isState s) : ∀ (n : Nat) (x3 : Int32) (x4 : Int32) (σ : Mem), JO G mX0_call (d + 2) 10 [some (.ref (G.1 + off o)), some (.ref (G.1 + off t)), some (.ref (G.1 + off s)), some (.int x3), some (.int x4)] [] σ rI (X0_call_10 o t s n x3 x4 σ) := by
  intro n
  induction n with
  | zero =>
    intro x3 x4 σ
    exact JO_none
  | succ n ih =>
    intro x3 x4 σ
    rw [X0_call_10]
    refine JO_iload (pc := 10) dX0_call_10 rfl ?_
    refine JO_aload_n (pc := 12) dX0_call_12 rfl ?_
    refine JO_getI (pc := 13) fl_X0_38 rfl (fkTown_people ht) dX0_call_13 ?_
    refine JO_icmp_ge (pc := 16) (tgt := 52) dX0_call_16 (by decide) ?_ ?_
    · refine JO_iload_n (pc := 52) dX0_call_52 rfl ?_
      refine JO_aload_n (pc := 53) dX0_call_53 rfl ?_
      refine JO_aload_n (pc := 54) dX0_call_54 rfl ?_
      refine JO_aload_n (pc := 55) dX0_call_55 rfl ?_
      refine JO_iload_n (pc := 56) dX0_call_56 rfl ?_
      refine JO_callVi (pc := 57) [.ref (G.1 + off t), .ref (G.1 + off s), .int x3] lk_X0_52 rfl (ci := 0) rfl (shClock ho) (w_X0_seats G d o t s ho ht hs x3 σ) rfl rfl (Nat.le_of_ble_eq_true rfl) dX0_call_57 (fun r4 => ?_)
      refine JO_ior (pc := 60) dX0_call_60 ?_
      refine JO_nm (fun v5 => ?_)
      refine JO_istore_n (pc := 61) (L' := [some (.ref (G.1 + off o)), some (.ref (G.1 + off t)), some (.ref (G.1 + off s)), some (.int v5), some (.int x4)]) dX0_call_61 rfl rfl rfl ?_
      refine JO_aload_n (pc := 62) dX0_call_62 rfl ?_
      refine JO_getR (pc := 63) fl_X0_56 rfl (fkTown_law ht) dX0_call_63 ?_
      refine JO_getI (pc := 66) fl_X0_60 rfl (fkForm_asksWet (inTown_law ht)) dX0_call_66 ?_
      refine JO_if_eq (pc := 69) (tgt := 97) dX0_call_69 (by decide) ?_ ?_
      · refine JO_iload_n (pc := 97) dX0_call_97 rfl ?_
        exact JO_reti (pc := 98) rfl dX0_call_98
      · refine JO_iload_n (pc := 72) dX0_call_72 rfl ?_
        refine JO_if_eq (pc := 73) (tgt := 97) dX0_call_73 (by decide) ?_ ?_
        · refine JO_iload_n (pc := 97) dX0_call_97 rfl ?_
          exact JO_reti (pc := 98) rfl dX0_call_98
        · refine JO_aload_n (pc := 76) dX0_call_76 rfl ?_
          refine JO_aload_n (pc := 77) dX0_call_77 rfl ?_
          refine JO_aload_n (pc := 78) dX0_call_78 rfl ?_
          refine JO_getI (pc := 79) fl_X0_64 rfl (fkState_date hs) dX0_call_79 ?_
          refine JO_aload_n (pc := 82) dX0_call_82 rfl ?_
          refine JO_getI (pc := 83) fl_X0_69 rfl (fkState_hour hs) dX0_call_83 ?_
          refine JO_callVi (pc := 86) [.ref (G.1 + off t), .int (r4.2.1 s 5), .int (r4.2.1 s 6)] lk_X0_72 rfl (ci := 0) rfl (shClock ho) (w_X0_wetness G d o t ho ht (r4.2.1 s 5) (r4.2.1 s 6) r4.2) rfl rfl (Nat.le_of_ble_eq_true rfl) dX0_call_86 (fun r6 => ?_)
          refine JO_if_eq (pc := 89) (tgt := 97) dX0_call_89 (by decide) ?_ ?_
          · refine JO_iload_n (pc := 97) dX0_call_97 rfl ?_
            exact JO_reti (pc := 98) rfl dX0_call_98
          · refine JO_iload_n (pc := 92) dX0_call_92 rfl ?_
            refine JO_ldc (pc := 93) kc_X0_76 rfl dX0_call_93 ?_
            refine JO_ior (pc := 95) dX0_call_95 ?_
            refine JO_nm (fun v7 => ?_)
            refine JO_istore_n (pc := 96) (L' := [some (.ref (G.1 + off o)), some (.ref (G.1 + off t)), some (.ref (G.1 + off s)), some (.int v7), some (.int x4)]) dX0_call_96 rfl rfl rfl ?_
            refine JO_iload_n (pc := 97) dX0_call_97 rfl ?_
            exact JO_reti (pc := 98) rfl dX0_call_98
    · refine JO_iload_n (pc := 19) dX0_call_19 rfl ?_
      refine JO_iload (pc := 20) dX0_call_20 rfl ?_
      refine JO_callSi (pc := 22) [.int x3, .int x4] lk_X0_44 rfl (w_X0_isMeeting G (d + 1) x3 x4 σ) rfl rfl (Nat.le_of_ble_eq_true rfl) dX0_call_22 (fun r8 => ?_)
      refine JO_if_ne (pc := 25) (tgt := 46) dX0_call_25 (by decide) ?_ ?_
      · exact JO_sub (l_sub_some (l_sub_some (l_sub_some (l_sub_some (l_sub_some (l_sub_nil)))))) (w_X0_call_46 G d o t s ho ht hs _ (ih) x3 x4 r8.2)
      · refine JO_aload_n (pc := 28) dX0_call_28 rfl ?_
        refine JO_aload_n (pc := 29) dX0_call_29 rfl ?_
        refine JO_aload_n (pc := 30) dX0_call_30 rfl ?_
        refine JO_iload (pc := 31) dX0_call_31 rfl ?_
        refine JO_callVi (pc := 33) [.ref (G.1 + off t), .ref (G.1 + off s), .int x4] lk_X0_48 rfl (ci := 0) rfl (shClock ho) (w_X0_staysToWait G d o t s ho ht hs x4 r8.2) rfl rfl (Nat.le_of_ble_eq_true rfl) dX0_call_33 (fun r9 => ?_)
        refine JO_if_eq (pc := 36) (tgt := 46) dX0_call_36 (by decide) ?_ ?_
        · exact JO_sub (l_sub_some (l_sub_some (l_sub_some (l_sub_some (l_sub_some (l_sub_nil)))))) (w_X0_call_46 G d o t s ho ht hs _ (ih) x3 x4 r9.2)
        · refine JO_iload_n (pc := 39) dX0_call_39 rfl ?_
          refine JO_iconst (pc := 40) (a := 1) dX0_call_40 (by decide) ?_
          refine JO_iload (pc := 41) dX0_call_41 rfl ?_
          refine JO_ishl (pc := 43) dX0_call_43 ?_
          refine JO_ior (pc := 44) dX0_call_44 ?_
          refine JO_nm (fun v10 => ?_)
          refine JO_istore_n (pc := 45) (L' := [some (.ref (G.1 + off o)), some (.ref (G.1 + off t)), some (.ref (G.1 + off s)), some (.int v10), some (.int x4)]) dX0_call_45 rfl rfl rfl ?_
          exact JO_sub (l_sub_some (l_sub_some (l_sub_some (l_sub_some (l_sub_some (l_sub_nil)))))) (w_X0_call_46 G d o t s ho ht hs _ (ih) v10 x4 r9.2)
set_option maxHeartbeats 4000000 in
set_option maxRecDepth 100000 in
theorem w_X0_call (G : JG) (d : Nat) (o : Nat) (t : Nat) (s : Nat) (ho : isClock o) (ht : isTown t) (hs : isState s) (σ : Mem) : JS G mX0_call (d + 2) [.ref (G.1 + off o), .ref (G.1 + off t), .ref (G.1 + off s)] σ rI (X0_call o t s σ) := by
  refine JS_of 2 (by decide +kernel) (Nat.le_of_ble_eq_true rfl) (L := [some (.ref (G.1 + off o)), some (.ref (G.1 + off t)), some (.ref (G.1 + off s)), none, none]) rfl ?_
  unfold X0_call
  refine JO_aload_n (pc := 0) dX0_call_0 rfl ?_
  refine JO_aload_n (pc := 1) dX0_call_1 rfl ?_
  refine JO_aload_n (pc := 2) dX0_call_2 rfl ?_
  refine JO_callVi (pc := 3) [.ref (G.1 + off t), .ref (G.1 + off s)] lk_X0_35 rfl (ci := 0) rfl (shClock ho) (w_X0_meetings G d o t s ho ht hs σ) rfl rfl (Nat.le_of_ble_eq_true rfl) dX0_call_3 (fun r1 => ?_)
  refine JO_nm (fun v2 => ?_)
  refine JO_istore_n (pc := 6) (L' := [some (.ref (G.1 + off o)), some (.ref (G.1 + off t)), some (.ref (G.1 + off s)), some (.int v2), none]) dX0_call_6 rfl rfl rfl ?_
  refine JO_iconst (pc := 7) (a := 0) dX0_call_7 (by decide) ?_
  refine JO_nm (fun v3 => ?_)
  refine JO_istore (pc := 8) (L' := [some (.ref (G.1 + off o)), some (.ref (G.1 + off t)), some (.ref (G.1 + off s)), some (.int v2), some (.int v3)]) dX0_call_8 rfl rfl rfl ?_
  exact JO_sub (l_sub_some (l_sub_some (l_sub_some (l_sub_some (l_sub_some (l_sub_nil)))))) (w_X0_call_10 G d o t s ho ht hs fu v2 v3 r1.2)
set_option maxHeartbeats 4000000 in
set_option maxRecDepth 100000 in
theorem w_X11_cell (G : JG) (d : Nat) (x0 : Int32) (x1 : Int32) (σ : Mem) : JS G mX11_cell d [.int x0, .int x1] σ rI (X11_cell x0 x1 σ) := by
  refine JS_of 0 (by decide +kernel) (Nat.le_of_ble_eq_true rfl) (L := [some (.int x0), some (.int x1)]) rfl ?_
  unfold X11_cell
  refine JO_iload_n (pc := 0) dX11_cell_0 rfl ?_
  refine JO_bipush (pc := 1) (a := 6) dX11_cell_1 (by decide) ?_
  refine JO_imul (pc := 3) dX11_cell_3 ?_
  refine JO_iload_n (pc := 4) dX11_cell_4 rfl ?_
  refine JO_iadd (pc := 5) dX11_cell_5 ?_
  exact JO_reti (pc := 6) rfl dX11_cell_6
set_option maxHeartbeats 4000000 in
set_option maxRecDepth 100000 in
theorem w_X0_takesPrice (G : JG) (d : Nat) (o : Nat) (s : Nat) (ho : isClock o) (hs : isState s) (x2 : Int32) (x3 : Int32) (x4 : Int32) (σ : Mem) : JS G mX0_takesPrice d [.ref (G.1 + off o), .ref (G.1 + off s), .int x2, .int x3, .int x4] σ rI (X0_takesPrice o s x2 x3 x4 σ) := by
  refine JS_of 0 (by decide +kernel) (Nat.le_of_ble_eq_true rfl) (L := [some (.ref (G.1 + off o)), some (.ref (G.1 + off s)), some (.int x2), some (.int x3), some (.int x4)]) rfl ?_
  unfold X0_takesPrice
  refine JO_aload_n (pc := 0) dX0_takesPrice_0 rfl ?_
  refine JO_getR (pc := 1) fl_X0_140 rfl (fkState_coin hs) dX0_takesPrice_1 ?_
  refine JO_iload_n (pc := 4) dX0_takesPrice_4 rfl ?_
  refine JO_iald (pc := 5) (akState_coin hs) dX0_takesPrice_5 ?_
  refine JO_iload (pc := 6) dX0_takesPrice_6 rfl ?_
  refine JO_icmp_ge (pc := 8) (tgt := 13) dX0_takesPrice_8 (by decide) ?_ ?_
  · refine JO_aload_n (pc := 13) dX0_takesPrice_13 rfl ?_
    refine JO_getR (pc := 14) fl_X0_140 rfl (fkState_coin hs) dX0_takesPrice_14 ?_
    refine JO_iload_n (pc := 17) dX0_takesPrice_17 rfl ?_
    refine JO_dup2 (pc := 18) dX0_takesPrice_18 rfl rfl ?_
    refine JO_iald (pc := 19) (akState_coin hs) dX0_takesPrice_19 ?_
    refine JO_iload (pc := 20) dX0_takesPrice_20 rfl ?_
    refine JO_isub (pc := 22) dX0_takesPrice_22 ?_
    refine JO_iast (pc := 23) (akState_coin hs) dX0_takesPrice_23 (fun σ1 => ?_)
    refine JO_aload_n (pc := 24) dX0_takesPrice_24 rfl ?_
    refine JO_getR (pc := 25) fl_X0_140 rfl (fkState_coin hs) dX0_takesPrice_25 ?_
    refine JO_iload_n (pc := 28) dX0_takesPrice_28 rfl ?_
    refine JO_dup2 (pc := 29) dX0_takesPrice_29 rfl rfl ?_
    refine JO_iald (pc := 30) (akState_coin hs) dX0_takesPrice_30 ?_
    refine JO_iload (pc := 31) dX0_takesPrice_31 rfl ?_
    refine JO_iadd (pc := 33) dX0_takesPrice_33 ?_
    refine JO_iast (pc := 34) (akState_coin hs) dX0_takesPrice_34 (fun σ2 => ?_)
    refine JO_iconst (pc := 35) (a := 1) dX0_takesPrice_35 (by decide) ?_
    exact JO_retzc (pc := 36) (by decide) rfl dX0_takesPrice_36
  · refine JO_iconst (pc := 11) (a := 0) dX0_takesPrice_11 (by decide) ?_
    exact JO_retzc (pc := 12) (by decide) rfl dX0_takesPrice_12
set_option maxHeartbeats 4000000 in
set_option maxRecDepth 100000 in
theorem w_X0_payment_141 (G : JG) (d : Nat) (o : Nat) (t : Nat) (s : Nat) (ho : isClock o) (ht : isTown t) (hs : isState s) (k165 : Int32 → Int32 → Int32 → Int32 → Int32 → Mem → Option (Int32 × Mem)) (hk165 : ∀ (x4 : Int32) (x5 : Int32) (x6 : Int32) (x7 : Int32) (x8 : Int32) (σ : Mem), JO G mX0_payment (d + 1) 165 [some (.ref (G.1 + off o)), some (.ref (G.1 + off t)), some (.ref (G.1 + off s)), none, some (.int x4), some (.int x5), some (.int x6), some (.int x7), some (.int x8)] [] σ rI (k165 x4 x5 x6 x7 x8 σ)) : ∀ (x4 : Int32) (x5 : Int32) (x6 : Int32) (x7 : Int32) (s0 : Int32) (s1 : Int32) (σ : Mem), JO G mX0_payment (d + 1) 141 [some (.ref (G.1 + off o)), some (.ref (G.1 + off t)), some (.ref (G.1 + off s)), none, some (.int x4), some (.int x5), some (.int x6), some (.int x7), none] [.int s0, .int s1, .ref (G.1 + off (o + 1))] σ rI (X0_payment_141 o t s k165 x4 x5 x6 x7 s0 s1 σ) := by
  intro x4 x5 x6 x7 s0 s1 σ
  unfold X0_payment_141
  refine JO_iast (pc := 141) (akClock_given ho) dX0_payment_141 (fun σ14 => ?_)
  refine JO_iconst (pc := 142) (a := 0) dX0_payment_142 (by decide) ?_
  refine JO_sipush (pc := 143) (a := 240) dX0_payment_143 (by decide) ?_
  refine JO_aload_n (pc := 146) dX0_payment_146 rfl ?_
  refine JO_getR (pc := 147) fl_X0_56 rfl (fkTown_law ht) dX0_payment_147 ?_
  refine JO_aload_n (pc := 150) dX0_payment_150 rfl ?_
  refine JO_getR (pc := 151) fl_X0_11 rfl (fkClock_given ho) dX0_payment_151 ?_
  refine JO_callVi (pc := 154) [.ref (G.1 + off (o + 1))] lk_X0_121 rfl (ci := 2) rfl (shForm (inTown_law ht)) (w_X2_value G d (t + 9) (o + 1) 7 (inTown_law ht) (akClock_given ho) σ14) rfl rfl (Nat.le_of_ble_eq_true rfl) dX0_payment_154 (fun r15 => ?_)
  refine JO_mmin (pc := 157) lm_X0_125 rfl (Nat.le_of_ble_eq_true rfl) dX0_payment_157 ?_
  refine JO_mmax (pc := 160) lm_X0_130 rfl (Nat.le_of_ble_eq_true rfl) dX0_payment_160 ?_
  refine JO_nm (fun v16 => ?_)
  refine JO_istore (pc := 163) (L' := [some (.ref (G.1 + off o)), some (.ref (G.1 + off t)), some (.ref (G.1 + off s)), none, some (.int x4), some (.int x5), some (.int x6), some (.int x7), some (.int v16)]) dX0_payment_163 rfl rfl rfl ?_
  exact JO_sub (l_sub_some (l_sub_some (l_sub_some (l_sub_none (l_sub_some (l_sub_some (l_sub_some (l_sub_some (l_sub_some (l_sub_nil)))))))))) (hk165 x4 x5 x6 x7 v16 r15.2)
set_option maxHeartbeats 4000000 in
set_option maxRecDepth 100000 in
theorem w_X0_payment_207 (G : JG) (d : Nat) (o : Nat) (t : Nat) (s : Nat) (ho : isClock o) (ht : isTown t) (hs : isState s) : ∀ (x6 : Int32) (x7 : Int32) (x8 : Int32) (σ : Mem), JO G mX0_payment (d + 1) 207 [none, none, some (.ref (G.1 + off s)), none, none, none, some (.int x6), some (.int x7), some (.int x8)] [] σ rI (X0_payment_207 o t s x6 x7 x8 σ) := by
  intro x6 x7 x8 σ
  unfold X0_payment_207
  refine JO_aload_n (pc := 207) dX0_payment_207 rfl ?_
  refine JO_getR (pc := 208) fl_X0_115 rfl (fkState_debt hs) dX0_payment_208 ?_
  refine JO_iload (pc := 211) dX0_payment_211 rfl ?_
  refine JO_iload (pc := 213) dX0_payment_213 rfl ?_
  refine JO_iload (pc := 215) dX0_payment_215 rfl ?_
  refine JO_isub (pc := 217) dX0_payment_217 ?_
  refine JO_iast (pc := 218) (akState_debt hs) dX0_payment_218 (fun σ17 => ?_)
  refine JO_iload (pc := 219) dX0_payment_219 rfl ?_
  exact JO_reti (pc := 221) rfl dX0_payment_221
set_option maxHeartbeats 4000000 in
set_option maxRecDepth 100000 in
theorem w_X0_payment_165 (G : JG) (d : Nat) (o : Nat) (t : Nat) (s : Nat) (ho : isClock o) (ht : isTown t) (hs : isState s) : ∀ (x4 : Int32) (x5 : Int32) (x6 : Int32) (x7 : Int32) (x8 : Int32) (σ : Mem), JO G mX0_payment (d + 1) 165 [some (.ref (G.1 + off o)), some (.ref (G.1 + off t)), some (.ref (G.1 + off s)), none, some (.int x4), some (.int x5), some (.int x6), some (.int x7), some (.int x8)] [] σ rI (X0_payment_165 o t s x4 x5 x6 x7 x8 σ) := by
  intro x4 x5 x6 x7 x8 σ
  unfold X0_payment_165
  refine JO_iload (pc := 165) dX0_payment_165 rfl ?_
  refine JO_iload (pc := 167) dX0_payment_167 rfl ?_
  refine JO_mmin (pc := 169) lm_X0_125 rfl (Nat.le_of_ble_eq_true rfl) dX0_payment_169 ?_
  refine JO_nm (fun v12 => ?_)
  refine JO_istore (pc := 172) (L' := [some (.ref (G.1 + off o)), some (.ref (G.1 + off t)), some (.ref (G.1 + off s)), none, some (.int x4), some (.int x5), some (.int x6), some (.int x7), some (.int v12)]) dX0_payment_172 rfl rfl rfl ?_
  refine JO_iload (pc := 174) dX0_payment_174 rfl ?_
  refine JO_if_le (pc := 176) (tgt := 207) dX0_payment_176 (by decide) ?_ ?_
  · exact JO_sub (l_sub_none (l_sub_none (l_sub_some (l_sub_none (l_sub_none (l_sub_none (l_sub_some (l_sub_some (l_sub_some (l_sub_nil)))))))))) (w_X0_payment_207 G d o t s ho ht hs x6 x7 v12 σ)
  · refine JO_iload (pc := 179) dX0_payment_179 rfl ?_
    refine JO_iload (pc := 181) dX0_payment_181 rfl ?_
    refine JO_icmp_eq (pc := 183) (tgt := 207) dX0_payment_183 (by decide) ?_ ?_
    · exact JO_sub (l_sub_none (l_sub_none (l_sub_some (l_sub_none (l_sub_none (l_sub_none (l_sub_some (l_sub_some (l_sub_some (l_sub_nil)))))))))) (w_X0_payment_207 G d o t s ho ht hs x6 x7 v12 σ)
    · refine JO_aload_n (pc := 186) dX0_payment_186 rfl ?_
      refine JO_aload_n (pc := 187) dX0_payment_187 rfl ?_
      refine JO_iload (pc := 188) dX0_payment_188 rfl ?_
      refine JO_iload (pc := 190) dX0_payment_190 rfl ?_
      refine JO_aload_n (pc := 192) dX0_payment_192 rfl ?_
      refine JO_getR (pc := 193) fl_X0_133 rfl (fkTown_price ht) dX0_payment_193 ?_
      refine JO_iload (pc := 196) dX0_payment_196 rfl ?_
      refine JO_iald (pc := 198) (akTown_price ht) dX0_payment_198 ?_
      refine JO_callVi (pc := 199) [.ref (G.1 + off s), .int x4, .int x5, .int (σ.1 (t + 6) x4.toNatClampNeg)] lk_X0_136 rfl (ci := 0) rfl (shClock ho) (w_X0_takesPrice G d o s ho hs x4 x5 (σ.1 (t + 6) x4.toNatClampNeg) σ) rfl rfl (Nat.le_of_ble_eq_true rfl) dX0_payment_199 (fun r13 => ?_)
      refine JO_if_ne (pc := 202) (tgt := 207) dX0_payment_202 (by decide) ?_ ?_
      · exact JO_sub (l_sub_none (l_sub_none (l_sub_some (l_sub_none (l_sub_none (l_sub_none (l_sub_some (l_sub_some (l_sub_some (l_sub_nil)))))))))) (w_X0_payment_207 G d o t s ho ht hs x6 x7 v12 r13.2)
      · refine JO_iconst (pc := 205) (a := 0) dX0_payment_205 (by decide) ?_
        exact JO_reti (pc := 206) rfl dX0_payment_206
set_option maxHeartbeats 4000000 in
set_option maxRecDepth 100000 in
theorem w_X0_payment (G : JG) (d : Nat) (o : Nat) (t : Nat) (s : Nat) (ho : isClock o) (ht : isTown t) (hs : isState s) (x3 : Int32) (x4 : Int32) (σ : Mem) : JS G mX0_payment (d + 1) [.ref (G.1 + off o), .ref (G.1 + off t), .ref (G.1 + off s), .int x3, .int x4] σ rI (X0_payment o t s x3 x4 σ) := by
  refine JS_of 4 (by decide +kernel) (Nat.le_of_ble_eq_true rfl) (L := [some (.ref (G.1 + off o)), some (.ref (G.1 + off t)), some (.ref (G.1 + off s)), some (.int x3), some (.int x4), none, none, none, none]) rfl ?_
  unfold X0_payment
  refine JO_aload_n (pc := 0) dX0_payment_0 rfl ?_
  refine JO_getR (pc := 1) fl_X0_108 rfl (fkState_stand hs) dX0_payment_1 ?_
  refine JO_iload (pc := 4) dX0_payment_4 rfl ?_
  refine JO_iald (pc := 6) (akState_stand hs) dX0_payment_6 ?_
  refine JO_nm (fun v1 => ?_)
  refine JO_istore (pc := 7) (L' := [some (.ref (G.1 + off o)), some (.ref (G.1 + off t)), some (.ref (G.1 + off s)), some (.int x3), some (.int x4), some (.int v1), none, none, none]) dX0_payment_7 rfl rfl rfl ?_
  refine JO_iload (pc := 9) dX0_payment_9 rfl ?_
  refine JO_aload_n (pc := 11) dX0_payment_11 rfl ?_
  refine JO_getR (pc := 12) fl_X0_77 rfl (fkState_aim hs) dX0_payment_12 ?_
  refine JO_iload (pc := 15) dX0_payment_15 rfl ?_
  refine JO_iald (pc := 17) (akState_aim hs) dX0_payment_17 ?_
  refine JO_callSNi (pc := 18) [.int v1, .int (σ.1 (s + 2) x4.toNatClampNeg)] lk_X0_111 rfl (w_X11_cell G d v1 (σ.1 (s + 2) x4.toNatClampNeg) σ) rfl rfl (Nat.le_of_ble_eq_true rfl) dX0_payment_18 (fun r2 => ?_)
  refine JO_nm (fun v3 => ?_)
  refine JO_istore (pc := 21) (L' := [some (.ref (G.1 + off o)), some (.ref (G.1 + off t)), some (.ref (G.1 + off s)), some (.int x3), some (.int x4), some (.int v1), some (.int v3), none, none]) dX0_payment_21 rfl rfl rfl ?_
  refine JO_aload_n (pc := 23) dX0_payment_23 rfl ?_
  refine JO_getR (pc := 24) fl_X0_115 rfl (fkState_debt hs) dX0_payment_24 ?_
  refine JO_iload (pc := 27) dX0_payment_27 rfl ?_
  refine JO_iald (pc := 29) (akState_debt hs) dX0_payment_29 ?_
  refine JO_nm (fun v4 => ?_)
  refine JO_istore (pc := 30) (L' := [some (.ref (G.1 + off o)), some (.ref (G.1 + off t)), some (.ref (G.1 + off s)), some (.int x3), some (.int x4), some (.int v1), some (.int v3), some (.int v4), none]) dX0_payment_30 rfl rfl rfl ?_
  refine JO_iload (pc := 32) dX0_payment_32 rfl ?_
  refine JO_if_ne (pc := 34) (tgt := 39) dX0_payment_34 (by decide) ?_ ?_
  · refine JO_bipush (pc := 39) (a := 60) dX0_payment_39 (by decide) ?_
    refine JO_nm (fun v5 => ?_)
    refine JO_istore (pc := 41) (L' := [some (.ref (G.1 + off o)), some (.ref (G.1 + off t)), some (.ref (G.1 + off s)), some (.int x3), some (.int x4), some (.int v1), some (.int v3), some (.int v4), some (.int v5)]) dX0_payment_41 rfl rfl rfl ?_
    refine JO_aload_n (pc := 43) dX0_payment_43 rfl ?_
    refine JO_getR (pc := 44) fl_X0_56 rfl (fkTown_law ht) dX0_payment_44 ?_
    refine JO_getI (pc := 47) fl_X0_118 rfl (fkForm_isTold (inTown_law ht)) dX0_payment_47 ?_
    refine JO_if_eq (pc := 50) (tgt := 165) dX0_payment_50 (by decide) ?_ ?_
    · exact JO_sub (l_sub_some (l_sub_some (l_sub_some (l_sub_none (l_sub_some (l_sub_some (l_sub_some (l_sub_some (l_sub_some (l_sub_nil)))))))))) (w_X0_payment_165 G d o t s ho ht hs x4 v1 v3 v4 v5 r2.2)
    · refine JO_aload_n (pc := 53) dX0_payment_53 rfl ?_
      refine JO_getR (pc := 54) fl_X0_11 rfl (fkClock_given ho) dX0_payment_54 ?_
      refine JO_iconst (pc := 57) (a := 0) dX0_payment_57 (by decide) ?_
      refine JO_iload (pc := 58) dX0_payment_58 rfl ?_
      refine JO_iastc (pc := 60) (k := 0) (akClock_given ho) (by decide) (by decide) dX0_payment_60 (fun σ6 => ?_)
      refine JO_aload_n (pc := 61) dX0_payment_61 rfl ?_
      refine JO_getR (pc := 62) fl_X0_11 rfl (fkClock_given ho) dX0_payment_62 ?_
      refine JO_iconst (pc := 65) (a := 1) dX0_payment_65 (by decide) ?_
      refine JO_aload_n (pc := 66) dX0_payment_66 rfl ?_
      refine JO_getI (pc := 67) fl_X0_64 rfl (fkState_date hs) dX0_payment_67 ?_
      refine JO_iastc (pc := 70) (k := 1) (akClock_given ho) (by decide) (by decide) dX0_payment_70 (fun σ7 => ?_)
      refine JO_aload_n (pc := 71) dX0_payment_71 rfl ?_
      refine JO_getR (pc := 72) fl_X0_11 rfl (fkClock_given ho) dX0_payment_72 ?_
      refine JO_iconst (pc := 75) (a := 2) dX0_payment_75 (by decide) ?_
      refine JO_aload_n (pc := 76) dX0_payment_76 rfl ?_
      refine JO_getI (pc := 77) fl_X0_69 rfl (fkState_hour hs) dX0_payment_77 ?_
      refine JO_iastc (pc := 80) (k := 2) (akClock_given ho) (by decide) (by decide) dX0_payment_80 (fun σ8 => ?_)
      refine JO_aload_n (pc := 81) dX0_payment_81 rfl ?_
      refine JO_getR (pc := 82) fl_X0_11 rfl (fkClock_given ho) dX0_payment_82 ?_
      refine JO_iconst (pc := 85) (a := 3) dX0_payment_85 (by decide) ?_
      refine JO_iload_n (pc := 86) dX0_payment_86 rfl ?_
      refine JO_bipush (pc := 87) (a := 18) dX0_payment_87 (by decide) ?_
      refine JO_ishr (pc := 89) dX0_payment_89 ?_
      refine JO_iconst (pc := 90) (a := 1) dX0_payment_90 (by decide) ?_
      refine JO_iand (pc := 91) dX0_payment_91 ?_
      refine JO_iastc (pc := 92) (k := 3) (akClock_given ho) (by decide) (by decide) dX0_payment_92 (fun σ9 => ?_)
      refine JO_aload_n (pc := 93) dX0_payment_93 rfl ?_
      refine JO_getR (pc := 94) fl_X0_11 rfl (fkClock_given ho) dX0_payment_94 ?_
      refine JO_iconst (pc := 97) (a := 4) dX0_payment_97 (by decide) ?_
      refine JO_iload_n (pc := 98) dX0_payment_98 rfl ?_
      refine JO_bipush (pc := 99) (a := 12) dX0_payment_99 (by decide) ?_
      refine JO_iload (pc := 101) dX0_payment_101 rfl ?_
      refine JO_iadd (pc := 103) dX0_payment_103 ?_
      refine JO_ishr (pc := 104) dX0_payment_104 ?_
      refine JO_iconst (pc := 105) (a := 1) dX0_payment_105 (by decide) ?_
      refine JO_iand (pc := 106) dX0_payment_106 ?_
      refine JO_iastc (pc := 107) (k := 4) (akClock_given ho) (by decide) (by decide) dX0_payment_107 (fun σ10 => ?_)
      refine JO_aload_n (pc := 108) dX0_payment_108 rfl ?_
      refine JO_getR (pc := 109) fl_X0_11 rfl (fkClock_given ho) dX0_payment_109 ?_
      refine JO_iconst (pc := 112) (a := 5) dX0_payment_112 (by decide) ?_
      refine JO_iload_n (pc := 113) dX0_payment_113 rfl ?_
      refine JO_bipush (pc := 114) (a := 6) dX0_payment_114 (by decide) ?_
      refine JO_iload (pc := 116) dX0_payment_116 rfl ?_
      refine JO_iadd (pc := 118) dX0_payment_118 ?_
      refine JO_ishr (pc := 119) dX0_payment_119 ?_
      refine JO_iconst (pc := 120) (a := 1) dX0_payment_120 (by decide) ?_
      refine JO_iand (pc := 121) dX0_payment_121 ?_
      refine JO_iastc (pc := 122) (k := 5) (akClock_given ho) (by decide) (by decide) dX0_payment_122 (fun σ11 => ?_)
      refine JO_aload_n (pc := 123) dX0_payment_123 rfl ?_
      refine JO_getR (pc := 124) fl_X0_11 rfl (fkClock_given ho) dX0_payment_124 ?_
      refine JO_bipush (pc := 127) (a := 6) dX0_payment_127 (by decide) ?_
      refine JO_iload (pc := 129) dX0_payment_129 rfl ?_
      refine JO_iload (pc := 131) dX0_payment_131 rfl ?_
      refine JO_icmp_ne (pc := 133) (tgt := 140) dX0_payment_133 (by decide) ?_ ?_
      · refine JO_iconst (pc := 140) (a := 1) dX0_payment_140 (by decide) ?_
        exact JO_sub (l_sub_some (l_sub_some (l_sub_some (l_sub_none (l_sub_some (l_sub_some (l_sub_some (l_sub_some (l_sub_none (l_sub_nil)))))))))) (w_X0_payment_141 G d o t s ho ht hs _ (w_X0_payment_165 G d o t s ho ht hs) x4 v1 v3 v4 1 6 σ11)
      · refine JO_iconst (pc := 136) (a := 0) dX0_payment_136 (by decide) ?_
        refine JO_goto (pc := 137) (tgt := 141) dX0_payment_137 (by decide) ?_
        exact JO_sub (l_sub_some (l_sub_some (l_sub_some (l_sub_none (l_sub_some (l_sub_some (l_sub_some (l_sub_some (l_sub_none (l_sub_nil)))))))))) (w_X0_payment_141 G d o t s ho ht hs _ (w_X0_payment_165 G d o t s ho ht hs) x4 v1 v3 v4 0 6 σ11)
  · refine JO_iconst (pc := 37) (a := 0) dX0_payment_37 (by decide) ?_
    exact JO_reti (pc := 38) rfl dX0_payment_38
set_option maxHeartbeats 4000000 in
set_option maxRecDepth 100000 in
theorem w_X0_settle_40 (G : JG) (d : Nat) (o : Nat) (t : Nat) (s : Nat) (ho : isClock o) (ht : isTown t) (hs : isState s) (k3 : Int32 → Int32 → Mem → Option Mem) (hk3 : ∀ (x3 : Int32) (x4 : Int32) (σ : Mem), JO G mX0_settle (d + 2) 3 [some (.ref (G.1 + off o)), some (.ref (G.1 + off t)), some (.ref (G.1 + off s)), some (.int x3), some (.int x4)] [] σ rV (k3 x3 x4 σ)) : ∀ (x3 : Int32) (x4 : Int32) (s0 : Int32) (s1 : Int32) (σ : Mem), JO G mX0_settle (d + 2) 40 [some (.ref (G.1 + off o)), some (.ref (G.1 + off t)), some (.ref (G.1 + off s)), some (.int x3), some (.int x4)] [.int s0, .int s1, .ref (G.1 + off (o + 3))] σ rV (X0_settle_40 o t s k3 x3 x4 s0 s1 σ) := by
  intro x3 x4 s0 s1 σ
  unfold X0_settle_40
  refine JO_iast (pc := 40) (akClock_paid ho) dX0_settle_40 (fun σ4 => ?_)
  refine JO_inc (pc := 41) (b := 1) (L' := fun v5 => [some (.ref (G.1 + off o)), some (.ref (G.1 + off t)), some (.ref (G.1 + off s)), some (.int x3), some (.int v5)]) dX0_settle_41 rfl rfl (by decide) rfl (fun _ => rfl) (fun v5 => ?_)
  refine JO_goto (pc := 44) (tgt := 3) dX0_settle_44 (by decide) ?_
  exact JO_sub (l_sub_some (l_sub_some (l_sub_some (l_sub_some (l_sub_some (l_sub_nil)))))) (hk3 x3 v5 σ4)
set_option maxHeartbeats 4000000 in
set_option maxRecDepth 100000 in
theorem w_X0_settle_3 (G : JG) (d : Nat) (o : Nat) (t : Nat) (s : Nat) (ho : isClock o) (ht : isTown t) (hs : isState s) : ∀ (n : Nat) (x3 : Int32) (x4 : Int32) (σ : Mem), JO G mX0_settle (d + 2) 3 [some (.ref (G.1 + off o)), some (.ref (G.1 + off t)), some (.ref (G.1 + off s)), some (.int x3), some (.int x4)] [] σ rV (X0_settle_3 o t s n x3 x4 σ) := by
  intro n
  induction n with
  | zero =>
    intro x3 x4 σ
    exact JO_none
  | succ n ih =>
    intro x3 x4 σ
    rw [X0_settle_3]
    refine JO_iload (pc := 3) dX0_settle_3 rfl ?_
    refine JO_aload_n (pc := 5) dX0_settle_5 rfl ?_
    refine JO_getI (pc := 6) fl_X0_38 rfl (fkTown_people ht) dX0_settle_6 ?_
    refine JO_icmp_ge (pc := 9) (tgt := 47) dX0_settle_9 (by decide) ?_ ?_
    · exact JO_retv (pc := 47) rfl dX0_settle_47
    · refine JO_aload_n (pc := 12) dX0_settle_12 rfl ?_
      refine JO_getR (pc := 13) fl_X0_20 rfl (fkClock_paid ho) dX0_settle_13 ?_
      refine JO_iload (pc := 16) dX0_settle_16 rfl ?_
      refine JO_iload_n (pc := 18) dX0_settle_18 rfl ?_
      refine JO_iload (pc := 19) dX0_settle_19 rfl ?_
      refine JO_callSi (pc := 21) [.int x3, .int x4] lk_X0_98 rfl (w_X0_isWaiting G (d + 1) x3 x4 σ) rfl rfl (Nat.le_of_ble_eq_true rfl) dX0_settle_21 (fun r2 => ?_)
      refine JO_if_eq (pc := 24) (tgt := 39) dX0_settle_24 (by decide) ?_ ?_
      · refine JO_iconst (pc := 39) (a := 0) dX0_settle_39 (by decide) ?_
        exact JO_sub (l_sub_some (l_sub_some (l_sub_some (l_sub_some (l_sub_some (l_sub_nil)))))) (w_X0_settle_40 G d o t s ho ht hs _ (ih) x3 x4 0 x4 r2.2)
      · refine JO_aload_n (pc := 27) dX0_settle_27 rfl ?_
        refine JO_aload_n (pc := 28) dX0_settle_28 rfl ?_
        refine JO_aload_n (pc := 29) dX0_settle_29 rfl ?_
        refine JO_iload_n (pc := 30) dX0_settle_30 rfl ?_
        refine JO_iload (pc := 31) dX0_settle_31 rfl ?_
        refine JO_callVi (pc := 33) [.ref (G.1 + off t), .ref (G.1 + off s), .int x3, .int x4] lk_X0_104 rfl (ci := 0) rfl (shClock ho) (w_X0_payment G d o t s ho ht hs x3 x4 r2.2) rfl rfl (Nat.le_of_ble_eq_true rfl) dX0_settle_33 (fun r3 => ?_)
        refine JO_goto (pc := 36) (tgt := 40) dX0_settle_36 (by decide) ?_
        exact JO_sub (l_sub_some (l_sub_some (l_sub_some (l_sub_some (l_sub_some (l_sub_nil)))))) (w_X0_settle_40 G d o t s ho ht hs _ (ih) x3 x4 r3.1 x4 r3.2)
set_option maxHeartbeats 4000000 in
set_option maxRecDepth 100000 in
theorem w_X0_settle (G : JG) (d : Nat) (o : Nat) (t : Nat) (s : Nat) (ho : isClock o) (ht : isTown t) (hs : isState s) (x3 : Int32) (σ : Mem) : JS G mX0_settle (d + 2) [.ref (G.1 + off o), .ref (G.1 + off t), .ref (G.1 + off s), .int x3] σ rV (X0_settle o t s x3 σ) := by
  refine JS_of 1 (by decide +kernel) (Nat.le_of_ble_eq_true rfl) (L := [some (.ref (G.1 + off o)), some (.ref (G.1 + off t)), some (.ref (G.1 + off s)), some (.int x3), none]) rfl ?_
  unfold X0_settle
  refine JO_iconst (pc := 0) (a := 0) dX0_settle_0 (by decide) ?_
  refine JO_nm (fun v1 => ?_)
  refine JO_istore (pc := 1) (L' := [some (.ref (G.1 + off o)), some (.ref (G.1 + off t)), some (.ref (G.1 + off s)), some (.int x3), some (.int v1)]) dX0_settle_1 rfl rfl rfl ?_
  exact JO_sub (l_sub_some (l_sub_some (l_sub_some (l_sub_some (l_sub_some (l_sub_nil)))))) (w_X0_settle_3 G d o t s ho ht hs fu x3 v1 σ)
set_option maxHeartbeats 4000000 in
set_option maxRecDepth 100000 in
theorem w_X0_addInterest_94 (G : JG) (d : Nat) (o : Nat) (t : Nat) (s : Nat) (ho : isClock o) (ht : isTown t) (hs : isState s) (k95 : Int32 → Mem → Option Mem) (hk95 : ∀ (x3 : Int32) (σ : Mem), JO G mX0_addInterest (d + 1) 95 [some (.ref (G.1 + off o)), some (.ref (G.1 + off t)), some (.ref (G.1 + off s)), some (.int x3), none, none] [] σ rV (k95 x3 σ)) : ∀ (x3 : Int32) (s0 : Int32) (s1 : Int32) (σ : Mem), JO G mX0_addInterest (d + 1) 94 [some (.ref (G.1 + off o)), some (.ref (G.1 + off t)), some (.ref (G.1 + off s)), some (.int x3), none, none] [.int s0, .int s1, .ref (G.1 + off (s + 5))] σ rV (X0_addInterest_94 o t s k95 x3 s0 s1 σ) := by
  intro x3 s0 s1 σ
  unfold X0_addInterest_94
  refine JO_iast (pc := 94) (akState_debt hs) dX0_addInterest_94 (fun σ9 => ?_)
  exact JO_sub (l_sub_some (l_sub_some (l_sub_some (l_sub_some (l_sub_none (l_sub_none (l_sub_nil))))))) (hk95 x3 σ9)
set_option maxHeartbeats 4000000 in
set_option maxRecDepth 100000 in
theorem w_X0_addInterest_95 (G : JG) (d : Nat) (o : Nat) (t : Nat) (s : Nat) (ho : isClock o) (ht : isTown t) (hs : isState s) (k20 : Int32 → Mem → Option Mem) (hk20 : ∀ (x3 : Int32) (σ : Mem), JO G mX0_addInterest (d + 1) 20 [some (.ref (G.1 + off o)), some (.ref (G.1 + off t)), some (.ref (G.1 + off s)), some (.int x3), none, none] [] σ rV (k20 x3 σ)) : ∀ (x3 : Int32) (σ : Mem), JO G mX0_addInterest (d + 1) 95 [some (.ref (G.1 + off o)), some (.ref (G.1 + off t)), some (.ref (G.1 + off s)), some (.int x3), none, none] [] σ rV (X0_addInterest_95 o t s k20 x3 σ) := by
  intro x3 σ
  unfold X0_addInterest_95
  refine JO_inc (pc := 95) (b := 1) (L' := fun v8 => [some (.ref (G.1 + off o)), some (.ref (G.1 + off t)), some (.ref (G.1 + off s)), some (.int v8), none, none]) dX0_addInterest_95 rfl rfl (by decide) rfl (fun _ => rfl) (fun v8 => ?_)
  refine JO_goto (pc := 98) (tgt := 20) dX0_addInterest_98 (by decide) ?_
  exact JO_sub (l_sub_some (l_sub_some (l_sub_some (l_sub_some (l_sub_none (l_sub_none (l_sub_nil))))))) (hk20 v8 σ)
set_option maxHeartbeats 4000000 in
set_option maxRecDepth 100000 in
theorem w_X0_addInterest_20 (G : JG) (d : Nat) (o : Nat) (t : Nat) (s : Nat) (ho : isClock o) (ht : isTown t) (hs : isState s) : ∀ (n : Nat) (x3 : Int32) (σ : Mem), JO G mX0_addInterest (d + 1) 20 [some (.ref (G.1 + off o)), some (.ref (G.1 + off t)), some (.ref (G.1 + off s)), some (.int x3), none, none] [] σ rV (X0_addInterest_20 o t s n x3 σ) := by
  intro n
  induction n with
  | zero =>
    intro x3 σ
    exact JO_none
  | succ n ih =>
    intro x3 σ
    rw [X0_addInterest_20]
    refine JO_iload_n (pc := 20) dX0_addInterest_20 rfl ?_
    refine JO_aload_n (pc := 21) dX0_addInterest_21 rfl ?_
    refine JO_getR (pc := 22) fl_X0_115 rfl (fkState_debt hs) dX0_addInterest_22 ?_
    refine JO_alen (pc := 25) (a := 36) (akState_debt hs) (by decide) (by decide) dX0_addInterest_25 ?_
    refine JO_icmp_ge (pc := 26) (tgt := 101) dX0_addInterest_26 (by decide) ?_ ?_
    · exact JO_retv (pc := 101) rfl dX0_addInterest_101
    · refine JO_aload_n (pc := 29) dX0_addInterest_29 rfl ?_
      refine JO_getR (pc := 30) fl_X0_115 rfl (fkState_debt hs) dX0_addInterest_30 ?_
      refine JO_iload_n (pc := 33) dX0_addInterest_33 rfl ?_
      refine JO_iald (pc := 34) (akState_debt hs) dX0_addInterest_34 ?_
      refine JO_nm (fun v4 => ?_)
      refine JO_istore (pc := 35) (L' := [some (.ref (G.1 + off o)), some (.ref (G.1 + off t)), some (.ref (G.1 + off s)), some (.int x3), some (.int v4), none]) dX0_addInterest_35 rfl rfl rfl ?_
      refine JO_iload (pc := 37) dX0_addInterest_37 rfl ?_
      refine JO_if_le (pc := 39) (tgt := 95) dX0_addInterest_39 (by decide) ?_ ?_
      · exact JO_sub (l_sub_some (l_sub_some (l_sub_some (l_sub_some (l_sub_none (l_sub_none (l_sub_nil))))))) (w_X0_addInterest_95 G d o t s ho ht hs _ (ih) x3 σ)
      · refine JO_aload_n (pc := 42) dX0_addInterest_42 rfl ?_
        refine JO_getR (pc := 43) fl_X0_11 rfl (fkClock_given ho) dX0_addInterest_43 ?_
        refine JO_iconst (pc := 46) (a := 0) dX0_addInterest_46 (by decide) ?_
        refine JO_iload (pc := 47) dX0_addInterest_47 rfl ?_
        refine JO_iastc (pc := 49) (k := 0) (akClock_given ho) (by decide) (by decide) dX0_addInterest_49 (fun σ5 => ?_)
        refine JO_iconst (pc := 50) (a := 0) dX0_addInterest_50 (by decide) ?_
        refine JO_aload_n (pc := 51) dX0_addInterest_51 rfl ?_
        refine JO_getR (pc := 52) fl_X0_149 rfl (fkTown_interest ht) dX0_addInterest_52 ?_
        refine JO_aload_n (pc := 55) dX0_addInterest_55 rfl ?_
        refine JO_getR (pc := 56) fl_X0_11 rfl (fkClock_given ho) dX0_addInterest_56 ?_
        refine JO_callVi (pc := 59) [.ref (G.1 + off (o + 1))] lk_X0_121 rfl (ci := 2) rfl (shForm (inTown_interest ht)) (w_X2_value G d (t + 14) (o + 1) 7 (inTown_interest ht) (akClock_given ho) σ5) rfl rfl (Nat.le_of_ble_eq_true rfl) dX0_addInterest_59 (fun r6 => ?_)
        refine JO_mmax (pc := 62) lm_X0_130 rfl (Nat.le_of_ble_eq_true rfl) dX0_addInterest_62 ?_
        refine JO_nm (fun v7 => ?_)
        refine JO_istore (pc := 65) (L' := [some (.ref (G.1 + off o)), some (.ref (G.1 + off t)), some (.ref (G.1 + off s)), some (.int x3), some (.int v4), some (.int v7)]) dX0_addInterest_65 rfl rfl rfl ?_
        refine JO_aload_n (pc := 67) dX0_addInterest_67 rfl ?_
        refine JO_getR (pc := 68) fl_X0_115 rfl (fkState_debt hs) dX0_addInterest_68 ?_
        refine JO_iload_n (pc := 71) dX0_addInterest_71 rfl ?_
        refine JO_iload (pc := 72) dX0_addInterest_72 rfl ?_
        refine JO_sipush (pc := 74) (a := 9999) dX0_addInterest_74 (by decide) ?_
        refine JO_iload (pc := 77) dX0_addInterest_77 rfl ?_
        refine JO_isub (pc := 79) dX0_addInterest_79 ?_
        refine JO_icmp_le (pc := 80) (tgt := 89) dX0_addInterest_80 (by decide) ?_ ?_
        · refine JO_iload (pc := 89) dX0_addInterest_89 rfl ?_
          refine JO_iload (pc := 91) dX0_addInterest_91 rfl ?_
          refine JO_iadd (pc := 93) dX0_addInterest_93 ?_
          exact JO_sub (l_sub_some (l_sub_some (l_sub_some (l_sub_some (l_sub_none (l_sub_none (l_sub_nil))))))) (w_X0_addInterest_94 G d o t s ho ht hs _ (w_X0_addInterest_95 G d o t s ho ht hs _ (ih)) x3 (v4 + v7) x3 r6.2)
        · refine JO_sipush (pc := 83) (a := 9999) dX0_addInterest_83 (by decide) ?_
          refine JO_goto (pc := 86) (tgt := 94) dX0_addInterest_86 (by decide) ?_
          exact JO_sub (l_sub_some (l_sub_some (l_sub_some (l_sub_some (l_sub_none (l_sub_none (l_sub_nil))))))) (w_X0_addInterest_94 G d o t s ho ht hs _ (w_X0_addInterest_95 G d o t s ho ht hs _ (ih)) x3 9999 x3 r6.2)
set_option maxHeartbeats 4000000 in
set_option maxRecDepth 100000 in
theorem w_X0_addInterest (G : JG) (d : Nat) (o : Nat) (t : Nat) (s : Nat) (ho : isClock o) (ht : isTown t) (hs : isState s) (σ : Mem) : JS G mX0_addInterest (d + 1) [.ref (G.1 + off o), .ref (G.1 + off t), .ref (G.1 + off s)] σ rV (X0_addInterest o t s σ) := by
  refine JS_of 3 (by decide +kernel) (Nat.le_of_ble_eq_true rfl) (L := [some (.ref (G.1 + off o)), some (.ref (G.1 + off t)), some (.ref (G.1 + off s)), none, none, none]) rfl ?_
  unfold X0_addInterest
  refine JO_aload_n (pc := 0) dX0_addInterest_0 rfl ?_
  refine JO_getR (pc := 1) fl_X0_11 rfl (fkClock_given ho) dX0_addInterest_1 ?_
  refine JO_iconst (pc := 4) (a := 0) dX0_addInterest_4 (by decide) ?_
  refine JO_callSv (pc := 5) [.ref (G.1 + off (o + 1)), .int 0] lk_X0_92 rfl (w_J7_fill_53178 G d (o + 1) 7 (akClock_given ho) 0 σ) rfl rfl (Nat.le_of_ble_eq_true rfl) dX0_addInterest_5 (fun σ1 => ?_)
  refine JO_aload_n (pc := 8) dX0_addInterest_8 rfl ?_
  refine JO_getR (pc := 9) fl_X0_11 rfl (fkClock_given ho) dX0_addInterest_9 ?_
  refine JO_iconst (pc := 12) (a := 1) dX0_addInterest_12 (by decide) ?_
  refine JO_aload_n (pc := 13) dX0_addInterest_13 rfl ?_
  refine JO_getI (pc := 14) fl_X0_64 rfl (fkState_date hs) dX0_addInterest_14 ?_
  refine JO_iastc (pc := 17) (k := 1) (akClock_given ho) (by decide) (by decide) dX0_addInterest_17 (fun σ2 => ?_)
  refine JO_iconst (pc := 18) (a := 0) dX0_addInterest_18 (by decide) ?_
  refine JO_nm (fun v3 => ?_)
  refine JO_istore_n (pc := 19) (L' := [some (.ref (G.1 + off o)), some (.ref (G.1 + off t)), some (.ref (G.1 + off s)), some (.int v3), none, none]) dX0_addInterest_19 rfl rfl rfl ?_
  exact JO_sub (l_sub_some (l_sub_some (l_sub_some (l_sub_some (l_sub_none (l_sub_none (l_sub_nil))))))) (w_X0_addInterest_20 G d o t s ho ht hs fu v3 σ2)
set_option maxHeartbeats 4000000 in
set_option maxRecDepth 100000 in
theorem w_X0_turn_48 (G : JG) (d : Nat) (o : Nat) (t : Nat) (s : Nat) (ho : isClock o) (ht : isTown t) (hs : isState s) : ∀ (σ : Mem), JO G mX0_turn (d + 2) 48 [none, some (.ref (G.1 + off t)), some (.ref (G.1 + off s))] [] σ rV (X0_turn_48 o t s σ) := by
  intro σ
  unfold X0_turn_48
  refine JO_aload_n (pc := 48) dX0_turn_48 rfl ?_
  refine JO_getR (pc := 49) fl_X0_86 rfl (fkTown_door ht) dX0_turn_49 ?_
  refine JO_iconst (pc := 52) (a := 0) dX0_turn_52 (by decide) ?_
  refine JO_aload_n (pc := 53) dX0_turn_53 rfl ?_
  refine JO_getR (pc := 54) fl_X0_80 rfl (fkState_place hs) dX0_turn_54 ?_
  refine JO_iconst (pc := 57) (a := 0) dX0_turn_57 (by decide) ?_
  refine JO_bipush (pc := 58) (a := 6) dX0_turn_58 (by decide) ?_
  refine JO_copy (pc := 60) lc_X0_155 rfl (akTown_door ht) (akState_place hs) (Nat.le_of_ble_eq_true rfl) dX0_turn_60 (fun σ4 => ?_)
  refine JO_aload_n (pc := 63) dX0_turn_63 rfl ?_
  refine JO_iconst (pc := 64) (a := 0) dX0_turn_64 (by decide) ?_
  refine JO_putI (pc := 65) fl_X0_69 rfl (fkState_hour hs) dX0_turn_65 (fun σ5 => ?_)
  refine JO_aload_n (pc := 68) dX0_turn_68 rfl ?_
  refine JO_dup (pc := 69) dX0_turn_69 rfl ?_
  refine JO_getI (pc := 70) fl_X0_64 rfl (fkState_date hs) dX0_turn_70 ?_
  refine JO_iconst (pc := 73) (a := 1) dX0_turn_73 (by decide) ?_
  refine JO_iadd (pc := 74) dX0_turn_74 ?_
  refine JO_putI (pc := 75) fl_X0_64 rfl (fkState_date hs) dX0_turn_75 (fun σ6 => ?_)
  exact JO_retv (pc := 78) rfl dX0_turn_78
set_option maxHeartbeats 4000000 in
set_option maxRecDepth 100000 in
theorem w_X0_turn (G : JG) (d : Nat) (o : Nat) (t : Nat) (s : Nat) (ho : isClock o) (ht : isTown t) (hs : isState s) (σ : Mem) : JS G mX0_turn (d + 2) [.ref (G.1 + off o), .ref (G.1 + off t), .ref (G.1 + off s)] σ rV (X0_turn o t s σ) := by
  refine JS_of 0 (by decide +kernel) (Nat.le_of_ble_eq_true rfl) (L := [some (.ref (G.1 + off o)), some (.ref (G.1 + off t)), some (.ref (G.1 + off s))]) rfl ?_
  unfold X0_turn
  refine JO_aload_n (pc := 0) dX0_turn_0 rfl ?_
  refine JO_dup (pc := 1) dX0_turn_1 rfl ?_
  refine JO_getI (pc := 2) fl_X0_143 rfl (fkState_past hs) dX0_turn_2 ?_
  refine JO_iconst (pc := 5) (a := 1) dX0_turn_5 (by decide) ?_
  refine JO_iadd (pc := 6) dX0_turn_6 ?_
  refine JO_putI (pc := 7) fl_X0_143 rfl (fkState_past hs) dX0_turn_7 (fun σ1 => ?_)
  refine JO_aload_n (pc := 10) dX0_turn_10 rfl ?_
  refine JO_dup (pc := 11) dX0_turn_11 rfl ?_
  refine JO_getI (pc := 12) fl_X0_69 rfl (fkState_hour hs) dX0_turn_12 ?_
  refine JO_iconst (pc := 15) (a := 1) dX0_turn_15 (by decide) ?_
  refine JO_iadd (pc := 16) dX0_turn_16 ?_
  refine JO_putI (pc := 17) fl_X0_69 rfl (fkState_hour hs) dX0_turn_17 (fun σ2 => ?_)
  refine JO_aload_n (pc := 20) dX0_turn_20 rfl ?_
  refine JO_getI (pc := 21) fl_X0_69 rfl (fkState_hour hs) dX0_turn_21 ?_
  refine JO_aload_n (pc := 24) dX0_turn_24 rfl ?_
  refine JO_getI (pc := 25) fl_X0_146 rfl (fkTown_day ht) dX0_turn_25 ?_
  refine JO_icmp_ge (pc := 28) (tgt := 32) dX0_turn_28 (by decide) ?_ ?_
  · refine JO_aload_n (pc := 32) dX0_turn_32 rfl ?_
    refine JO_getR (pc := 33) fl_X0_149 rfl (fkTown_interest ht) dX0_turn_33 ?_
    refine JO_getI (pc := 36) fl_X0_118 rfl (fkForm_isTold (inTown_interest ht)) dX0_turn_36 ?_
    refine JO_if_eq (pc := 39) (tgt := 48) dX0_turn_39 (by decide) ?_ ?_
    · exact JO_sub (l_sub_none (l_sub_some (l_sub_some (l_sub_nil)))) (w_X0_turn_48 G d o t s ho ht hs  σ2)
    · refine JO_aload_n (pc := 42) dX0_turn_42 rfl ?_
      refine JO_aload_n (pc := 43) dX0_turn_43 rfl ?_
      refine JO_aload_n (pc := 44) dX0_turn_44 rfl ?_
      refine JO_callVv (pc := 45) [.ref (G.1 + off t), .ref (G.1 + off s)] lk_X0_152 rfl (ci := 0) rfl (shClock ho) (w_X0_addInterest G d o t s ho ht hs σ2) rfl rfl (Nat.le_of_ble_eq_true rfl) dX0_turn_45 (fun σ3 => ?_)
      exact JO_sub (l_sub_none (l_sub_some (l_sub_some (l_sub_nil)))) (w_X0_turn_48 G d o t s ho ht hs  σ3)
  · exact JO_retv (pc := 31) rfl dX0_turn_31
set_option maxHeartbeats 4000000 in
set_option maxRecDepth 100000 in
theorem w_X0_pass (G : JG) (d : Nat) (o : Nat) (t : Nat) (s : Nat) (ho : isClock o) (ht : isTown t) (hs : isState s) (σ : Mem) : JS G mX0_pass (d + 3) [.ref (G.1 + off o), .ref (G.1 + off t), .ref (G.1 + off s)] σ rI (X0_pass o t s σ) := by
  refine JS_of 1 (by decide +kernel) (Nat.le_of_ble_eq_true rfl) (L := [some (.ref (G.1 + off o)), some (.ref (G.1 + off t)), some (.ref (G.1 + off s)), none]) rfl ?_
  unfold X0_pass
  refine JO_aload_n (pc := 0) dX0_pass_0 rfl ?_
  refine JO_aload_n (pc := 1) dX0_pass_1 rfl ?_
  refine JO_aload_n (pc := 2) dX0_pass_2 rfl ?_
  refine JO_callVi (pc := 3) [.ref (G.1 + off t), .ref (G.1 + off s)] lk_X0_23 rfl (ci := 0) rfl (shClock ho) (w_X0_call G d o t s ho ht hs σ) rfl rfl (Nat.le_of_ble_eq_true rfl) dX0_pass_3 (fun r1 => ?_)
  refine JO_nm (fun v2 => ?_)
  refine JO_istore_n (pc := 6) (L' := [some (.ref (G.1 + off o)), some (.ref (G.1 + off t)), some (.ref (G.1 + off s)), some (.int v2)]) dX0_pass_6 rfl rfl rfl ?_
  refine JO_aload_n (pc := 7) dX0_pass_7 rfl ?_
  refine JO_aload_n (pc := 8) dX0_pass_8 rfl ?_
  refine JO_aload_n (pc := 9) dX0_pass_9 rfl ?_
  refine JO_iload_n (pc := 10) dX0_pass_10 rfl ?_
  refine JO_callVv (pc := 11) [.ref (G.1 + off t), .ref (G.1 + off s), .int v2] lk_X0_27 rfl (ci := 0) rfl (shClock ho) (w_X0_settle G d o t s ho ht hs v2 r1.2) rfl rfl (Nat.le_of_ble_eq_true rfl) dX0_pass_11 (fun σ3 => ?_)
  refine JO_aload_n (pc := 14) dX0_pass_14 rfl ?_
  refine JO_aload_n (pc := 15) dX0_pass_15 rfl ?_
  refine JO_aload_n (pc := 16) dX0_pass_16 rfl ?_
  refine JO_callVv (pc := 17) [.ref (G.1 + off t), .ref (G.1 + off s)] lk_X0_31 rfl (ci := 0) rfl (shClock ho) (w_X0_turn G d o t s ho ht hs σ3) rfl rfl (Nat.le_of_ble_eq_true rfl) dX0_pass_17 (fun σ4 => ?_)
  refine JO_iload_n (pc := 20) dX0_pass_20 rfl ?_
  exact JO_reti (pc := 21) rfl dX0_pass_21
set_option maxHeartbeats 4000000 in
set_option maxRecDepth 100000 in
theorem w_X7_copy (G : JG) (d : Nat) (o : Nat) (s : Nat) (ho : isState o) (hs : isState s) (σ : Mem) : JS G mX7_copy (d + 1) [.ref (G.1 + off o), .ref (G.1 + off s)] σ rV (X7_copy o s σ) := by
  refine JS_of 0 (by decide +kernel) (Nat.le_of_ble_eq_true rfl) (L := [some (.ref (G.1 + off o)), some (.ref (G.1 + off s))]) rfl ?_
  unfold X7_copy
  refine JO_aload_n (pc := 0) dX7_copy_0 rfl ?_
  refine JO_getR (pc := 1) fl_X7_9 rfl (fkState_place hs) dX7_copy_1 ?_
  refine JO_iconst (pc := 4) (a := 0) dX7_copy_4 (by decide) ?_
  refine JO_aload_n (pc := 5) dX7_copy_5 rfl ?_
  refine JO_getR (pc := 6) fl_X7_9 rfl (fkState_place ho) dX7_copy_6 ?_
  refine JO_iconst (pc := 9) (a := 0) dX7_copy_9 (by decide) ?_
  refine JO_bipush (pc := 10) (a := 6) dX7_copy_10 (by decide) ?_
  refine JO_copy (pc := 12) lc_X7_32 rfl (akState_place hs) (akState_place ho) (Nat.le_of_ble_eq_true rfl) dX7_copy_12 (fun σ1 => ?_)
  refine JO_aload_n (pc := 15) dX7_copy_15 rfl ?_
  refine JO_getR (pc := 16) fl_X7_15 rfl (fkState_aim hs) dX7_copy_16 ?_
  refine JO_iconst (pc := 19) (a := 0) dX7_copy_19 (by decide) ?_
  refine JO_aload_n (pc := 20) dX7_copy_20 rfl ?_
  refine JO_getR (pc := 21) fl_X7_15 rfl (fkState_aim ho) dX7_copy_21 ?_
  refine JO_iconst (pc := 24) (a := 0) dX7_copy_24 (by decide) ?_
  refine JO_bipush (pc := 25) (a := 6) dX7_copy_25 (by decide) ?_
  refine JO_copy (pc := 27) lc_X7_32 rfl (akState_aim hs) (akState_aim ho) (Nat.le_of_ble_eq_true rfl) dX7_copy_27 (fun σ2 => ?_)
  refine JO_aload_n (pc := 30) dX7_copy_30 rfl ?_
  refine JO_getR (pc := 31) fl_X7_18 rfl (fkState_stand hs) dX7_copy_31 ?_
  refine JO_iconst (pc := 34) (a := 0) dX7_copy_34 (by decide) ?_
  refine JO_aload_n (pc := 35) dX7_copy_35 rfl ?_
  refine JO_getR (pc := 36) fl_X7_18 rfl (fkState_stand ho) dX7_copy_36 ?_
  refine JO_iconst (pc := 39) (a := 0) dX7_copy_39 (by decide) ?_
  refine JO_bipush (pc := 40) (a := 6) dX7_copy_40 (by decide) ?_
  refine JO_copy (pc := 42) lc_X7_32 rfl (akState_stand hs) (akState_stand ho) (Nat.le_of_ble_eq_true rfl) dX7_copy_42 (fun σ3 => ?_)
  refine JO_aload_n (pc := 45) dX7_copy_45 rfl ?_
  refine JO_getR (pc := 46) fl_X7_21 rfl (fkState_coin hs) dX7_copy_46 ?_
  refine JO_iconst (pc := 49) (a := 0) dX7_copy_49 (by decide) ?_
  refine JO_aload_n (pc := 50) dX7_copy_50 rfl ?_
  refine JO_getR (pc := 51) fl_X7_21 rfl (fkState_coin ho) dX7_copy_51 ?_
  refine JO_iconst (pc := 54) (a := 0) dX7_copy_54 (by decide) ?_
  refine JO_bipush (pc := 55) (a := 6) dX7_copy_55 (by decide) ?_
  refine JO_copy (pc := 57) lc_X7_32 rfl (akState_coin hs) (akState_coin ho) (Nat.le_of_ble_eq_true rfl) dX7_copy_57 (fun σ4 => ?_)
  refine JO_aload_n (pc := 60) dX7_copy_60 rfl ?_
  refine JO_getR (pc := 61) fl_X7_24 rfl (fkState_debt hs) dX7_copy_61 ?_
  refine JO_iconst (pc := 64) (a := 0) dX7_copy_64 (by decide) ?_
  refine JO_aload_n (pc := 65) dX7_copy_65 rfl ?_
  refine JO_getR (pc := 66) fl_X7_24 rfl (fkState_debt ho) dX7_copy_66 ?_
  refine JO_iconst (pc := 69) (a := 0) dX7_copy_69 (by decide) ?_
  refine JO_aload_n (pc := 70) dX7_copy_70 rfl ?_
  refine JO_getR (pc := 71) fl_X7_24 rfl (fkState_debt ho) dX7_copy_71 ?_
  refine JO_alen (pc := 74) (a := 36) (akState_debt ho) (by decide) (by decide) dX7_copy_74 ?_
  refine JO_copy (pc := 75) lc_X7_32 rfl (akState_debt hs) (akState_debt ho) (Nat.le_of_ble_eq_true rfl) dX7_copy_75 (fun σ5 => ?_)
  refine JO_aload_n (pc := 78) dX7_copy_78 rfl ?_
  refine JO_aload_n (pc := 79) dX7_copy_79 rfl ?_
  refine JO_getI (pc := 80) fl_X7_40 rfl (fkState_date hs) dX7_copy_80 ?_
  refine JO_putI (pc := 83) fl_X7_40 rfl (fkState_date ho) dX7_copy_83 (fun σ6 => ?_)
  refine JO_aload_n (pc := 86) dX7_copy_86 rfl ?_
  refine JO_aload_n (pc := 87) dX7_copy_87 rfl ?_
  refine JO_getI (pc := 88) fl_X7_44 rfl (fkState_hour hs) dX7_copy_88 ?_
  refine JO_putI (pc := 91) fl_X7_44 rfl (fkState_hour ho) dX7_copy_91 (fun σ7 => ?_)
  refine JO_aload_n (pc := 94) dX7_copy_94 rfl ?_
  refine JO_aload_n (pc := 95) dX7_copy_95 rfl ?_
  refine JO_getI (pc := 96) fl_X7_47 rfl (fkState_past hs) dX7_copy_96 ?_
  refine JO_putI (pc := 99) fl_X7_47 rfl (fkState_past ho) dX7_copy_99 (fun σ8 => ?_)
  exact JO_retv (pc := 102) rfl dX7_copy_102
set_option maxHeartbeats 4000000 in
set_option maxRecDepth 100000 in
theorem w_X1_lookAhead_11 (G : JG) (d : Nat) (t : Nat) (s : Nat) (ht : isTown t) (hs : isState s) : ∀ (n : Nat) (x3 : Int32) (x4 : Int32) (σ : Mem), JO G mX1_lookAhead (d + 4) 11 [some (.ref (G.1 + off 43)), some (.ref (G.1 + off t)), none, some (.int x3), some (.int x4)] [] σ rV (X1_lookAhead_11 t s n x3 x4 σ) := by
  intro n
  induction n with
  | zero =>
    intro x3 x4 σ
    exact JO_none
  | succ n ih =>
    intro x3 x4 σ
    rw [X1_lookAhead_11]
    refine JO_iload (pc := 11) dX1_lookAhead_11 rfl ?_
    refine JO_iload_n (pc := 13) dX1_lookAhead_13 rfl ?_
    refine JO_icmp_ge (pc := 14) (tgt := 36) dX1_lookAhead_14 (by decide) ?_ ?_
    · exact JO_retv (pc := 36) rfl dX1_lookAhead_36
    · refine JO_aload_n (pc := 17) dX1_lookAhead_17 rfl ?_
      refine JO_getR (pc := 18) fl_X1_12 rfl fkX1_clock dX1_lookAhead_18 ?_
      refine JO_aload_n (pc := 21) dX1_lookAhead_21 rfl ?_
      refine JO_aload_n (pc := 22) dX1_lookAhead_22 rfl ?_
      refine JO_getR (pc := 23) fl_X1_21 rfl fkX1_trial dX1_lookAhead_23 ?_
      refine JO_callVi (pc := 26) [.ref (G.1 + off t), .ref (G.1 + off 48)] lk_X1_46 rfl (ci := 0) rfl (shClock (by unfold isClock; decide)) (w_X0_pass G d 44 t 48 (by unfold isClock; decide) ht (by unfold isState; decide) σ) rfl rfl (Nat.le_of_ble_eq_true rfl) dX1_lookAhead_26 (fun r3 => ?_)
      refine JO_pop (pc := 29) dX1_lookAhead_29 rfl ?_
      refine JO_inc (pc := 30) (b := 1) (L' := fun v4 => [some (.ref (G.1 + off 43)), some (.ref (G.1 + off t)), none, some (.int x3), some (.int v4)]) dX1_lookAhead_30 rfl rfl (by decide) rfl (fun _ => rfl) (fun v4 => ?_)
      refine JO_goto (pc := 33) (tgt := 11) dX1_lookAhead_33 (by decide) ?_
      exact JO_sub (l_sub_some (l_sub_some (l_sub_none (l_sub_some (l_sub_some (l_sub_nil)))))) (ih x3 v4 r3.2)
set_option maxHeartbeats 4000000 in
set_option maxRecDepth 100000 in
theorem w_X1_lookAhead (G : JG) (d : Nat) (t : Nat) (s : Nat) (ht : isTown t) (hs : isState s) (x3 : Int32) (σ : Mem) : JS G mX1_lookAhead (d + 4) [.ref (G.1 + off 43), .ref (G.1 + off t), .ref (G.1 + off s), .int x3] σ rV (X1_lookAhead t s x3 σ) := by
  refine JS_of 1 (by decide +kernel) (Nat.le_of_ble_eq_true rfl) (L := [some (.ref (G.1 + off 43)), some (.ref (G.1 + off t)), some (.ref (G.1 + off s)), some (.int x3), none]) rfl ?_
  unfold X1_lookAhead
  refine JO_aload_n (pc := 0) dX1_lookAhead_0 rfl ?_
  refine JO_getR (pc := 1) fl_X1_21 rfl fkX1_trial dX1_lookAhead_1 ?_
  refine JO_aload_n (pc := 4) dX1_lookAhead_4 rfl ?_
  refine JO_callVv (pc := 5) [.ref (G.1 + off s)] lk_X1_42 rfl (ci := 7) rfl (shState (by unfold isState; decide)) (w_X7_copy G (d + 2) 48 s (by unfold isState; decide) hs σ) rfl rfl (Nat.le_of_ble_eq_true rfl) dX1_lookAhead_5 (fun σ1 => ?_)
  refine JO_iconst (pc := 8) (a := 0) dX1_lookAhead_8 (by decide) ?_
  refine JO_nm (fun v2 => ?_)
  refine JO_istore (pc := 9) (L' := [some (.ref (G.1 + off 43)), some (.ref (G.1 + off t)), some (.ref (G.1 + off s)), some (.int x3), some (.int v2)]) dX1_lookAhead_9 rfl rfl rfl ?_
  exact JO_sub (l_sub_some (l_sub_some (l_sub_none (l_sub_some (l_sub_some (l_sub_nil)))))) (w_X1_lookAhead_11 G d t s ht hs fu x3 v2 σ1)
