set_option maxHeartbeats 4000000 in
set_option maxRecDepth 100000 in
theorem w_X12_dusk_115 (G : JG) (d : Nat) (k116 : Int32 → Mem → Option Mem) (hk116 : ∀ (x1 : Int32) (σ : Mem), JO G mX12_dusk (d + 3) 116 [some (.ref (G.1 + off 1000)), some (.int x1), none] [] σ rV (k116 x1 σ)) : ∀ (x1 : Int32) (s0 : Int32) (s1 : Int32) (σ : Mem), JO G mX12_dusk (d + 3) 115 [some (.ref (G.1 + off 1000)), some (.int x1), none] [.int s0, .int s1, .ref (G.1 + off 1033)] σ rV (X12_dusk_115 k116 x1 s0 s1 σ) := by
  intro x1 s0 s1 σ
  unfold X12_dusk_115
  refine JO_iast (pc := 115) akX12_owed dX12_dusk_115 (fun σ13 => ?_)
  exact JO_sub (l_sub_some (l_sub_some (l_sub_none (l_sub_nil)))) (hk116 x1 σ13)
set_option maxHeartbeats 4000000 in
set_option maxRecDepth 100000 in
theorem w_X12_dusk_81 (G : JG) (d : Nat) (k116 : Int32 → Mem → Option Mem) (hk116 : ∀ (x1 : Int32) (σ : Mem), JO G mX12_dusk (d + 3) 116 [some (.ref (G.1 + off 1000)), some (.int x1), none] [] σ rV (k116 x1 σ)) : ∀ (x1 : Int32) (s0 : Int32) (σ : Mem), JO G mX12_dusk (d + 3) 81 [some (.ref (G.1 + off 1000)), some (.int x1), none] [.int s0] σ rV (X12_dusk_81 k116 x1 s0 σ) := by
  intro x1 s0 σ
  unfold X12_dusk_81
  refine JO_istore_n (pc := 81) (L' := [some (.ref (G.1 + off 1000)), some (.int x1), some (.int s0)]) dX12_dusk_81 rfl rfl rfl ?_
  refine JO_aload_n (pc := 82) dX12_dusk_82 rfl ?_
  refine JO_getR (pc := 83) fl_X12_114 rfl fkX12_owed dX12_dusk_83 ?_
  refine JO_iload_n (pc := 86) dX12_dusk_86 rfl ?_
  refine JO_aload_n (pc := 87) dX12_dusk_87 rfl ?_
  refine JO_getR (pc := 88) fl_X12_114 rfl fkX12_owed dX12_dusk_88 ?_
  refine JO_iload_n (pc := 91) dX12_dusk_91 rfl ?_
  refine JO_iald (pc := 92) akX12_owed dX12_dusk_92 ?_
  refine JO_iload_n (pc := 93) dX12_dusk_93 rfl ?_
  refine JO_iadd (pc := 94) dX12_dusk_94 ?_
  refine JO_sipush (pc := 95) (a := 9999) dX12_dusk_95 (by decide) ?_
  refine JO_icmp_le (pc := 98) (tgt := 107) dX12_dusk_98 (by decide) ?_ ?_
  · refine JO_aload_n (pc := 107) dX12_dusk_107 rfl ?_
    refine JO_getR (pc := 108) fl_X12_114 rfl fkX12_owed dX12_dusk_108 ?_
    refine JO_iload_n (pc := 111) dX12_dusk_111 rfl ?_
    refine JO_iald (pc := 112) akX12_owed dX12_dusk_112 ?_
    refine JO_iload_n (pc := 113) dX12_dusk_113 rfl ?_
    refine JO_iadd (pc := 114) dX12_dusk_114 ?_
    exact JO_sub (l_sub_some (l_sub_some (l_sub_none (l_sub_nil)))) (w_X12_dusk_115 G d _ (hk116) x1 ((σ.1 1033 x1.toNatClampNeg) + s0) x1 σ)
  · refine JO_sipush (pc := 101) (a := 9999) dX12_dusk_101 (by decide) ?_
    refine JO_goto (pc := 104) (tgt := 115) dX12_dusk_104 (by decide) ?_
    exact JO_sub (l_sub_some (l_sub_some (l_sub_none (l_sub_nil)))) (w_X12_dusk_115 G d _ (hk116) x1 9999 x1 σ)
set_option maxHeartbeats 4000000 in
set_option maxRecDepth 100000 in
theorem w_X12_dusk_116 (G : JG) (d : Nat) (k2 : Int32 → Mem → Option Mem) (hk2 : ∀ (x1 : Int32) (σ : Mem), JO G mX12_dusk (d + 3) 2 [some (.ref (G.1 + off 1000)), some (.int x1), none] [] σ rV (k2 x1 σ)) : ∀ (x1 : Int32) (σ : Mem), JO G mX12_dusk (d + 3) 116 [some (.ref (G.1 + off 1000)), some (.int x1), none] [] σ rV (X12_dusk_116 k2 x1 σ) := by
  intro x1 σ
  unfold X12_dusk_116
  refine JO_inc (pc := 116) (b := 1) (L' := fun v8 => [some (.ref (G.1 + off 1000)), some (.int v8), none]) dX12_dusk_116 rfl rfl (by decide) rfl (fun _ => rfl) (fun v8 => ?_)
  refine JO_goto (pc := 119) (tgt := 2) dX12_dusk_119 (by decide) ?_
  exact JO_sub (l_sub_some (l_sub_some (l_sub_none (l_sub_nil)))) (hk2 v8 σ)
set_option maxHeartbeats 4000000 in
set_option maxRecDepth 100000 in
theorem w_X12_dusk_124 (G : JG) (d : Nat) : ∀ (n : Nat) (x1 : Int32) (σ : Mem), JO G mX12_dusk (d + 3) 124 [some (.ref (G.1 + off 1000)), some (.int x1), none] [] σ rV (X12_dusk_124 n x1 σ) := by
  intro n
  induction n with
  | zero =>
    intro x1 σ
    exact JO_none
  | succ n ih =>
    intro x1 σ
    rw [X12_dusk_124]
    refine JO_iload_n (pc := 124) dX12_dusk_124 rfl ?_
    refine JO_aload_n (pc := 125) dX12_dusk_125 rfl ?_
    refine JO_getI (pc := 126) fl_X12_401 rfl fkX12_people dX12_dusk_126 ?_
    refine JO_icmp_ge (pc := 129) (tgt := 150) dX12_dusk_129 (by decide) ?_ ?_
    · refine JO_aload_n (pc := 150) dX12_dusk_150 rfl ?_
      refine JO_iconst (pc := 151) (a := 0) dX12_dusk_151 (by decide) ?_
      refine JO_putI (pc := 152) fl_X12_438 rfl fkX12_hour dX12_dusk_152 (fun σ9 => ?_)
      refine JO_aload_n (pc := 155) dX12_dusk_155 rfl ?_
      refine JO_dup (pc := 156) dX12_dusk_156 rfl ?_
      refine JO_getI (pc := 157) fl_X12_435 rfl fkX12_date dX12_dusk_157 ?_
      refine JO_iconst (pc := 160) (a := 1) dX12_dusk_160 (by decide) ?_
      refine JO_iadd (pc := 161) dX12_dusk_161 ?_
      refine JO_putI (pc := 162) fl_X12_435 rfl fkX12_date dX12_dusk_162 (fun σ10 => ?_)
      exact JO_retv (pc := 165) rfl dX12_dusk_165
    · refine JO_aload_n (pc := 132) dX12_dusk_132 rfl ?_
      refine JO_getR (pc := 133) fl_X12_102 rfl fkX12_stand dX12_dusk_133 ?_
      refine JO_iload_n (pc := 136) dX12_dusk_136 rfl ?_
      refine JO_aload_n (pc := 137) dX12_dusk_137 rfl ?_
      refine JO_getR (pc := 138) fl_X12_72 rfl fkX12_door dX12_dusk_138 ?_
      refine JO_iload_n (pc := 141) dX12_dusk_141 rfl ?_
      refine JO_iald (pc := 142) akX12_door dX12_dusk_142 ?_
      refine JO_iast (pc := 143) akX12_stand dX12_dusk_143 (fun σ11 => ?_)
      refine JO_inc (pc := 144) (b := 1) (L' := fun v12 => [some (.ref (G.1 + off 1000)), some (.int v12), none]) dX12_dusk_144 rfl rfl (by decide) rfl (fun _ => rfl) (fun v12 => ?_)
      refine JO_goto (pc := 147) (tgt := 124) dX12_dusk_147 (by decide) ?_
      exact JO_sub (l_sub_some (l_sub_some (l_sub_none (l_sub_nil)))) (ih v12 σ11)
set_option maxHeartbeats 4000000 in
set_option maxRecDepth 100000 in
theorem w_X12_dusk_122 (G : JG) (d : Nat) : ∀ (σ : Mem), JO G mX12_dusk (d + 3) 122 [some (.ref (G.1 + off 1000)), none, none] [] σ rV (X12_dusk_122 σ) := by
  intro σ
  unfold X12_dusk_122
  refine JO_iconst (pc := 122) (a := 0) dX12_dusk_122 (by decide) ?_
  refine JO_nm (fun v7 => ?_)
  refine JO_istore_n (pc := 123) (L' := [some (.ref (G.1 + off 1000)), some (.int v7), none]) dX12_dusk_123 rfl rfl rfl ?_
  exact JO_sub (l_sub_some (l_sub_some (l_sub_none (l_sub_nil)))) (w_X12_dusk_124 G d fu v7 σ)
set_option maxHeartbeats 4000000 in
set_option maxRecDepth 100000 in
theorem w_X12_dusk_2 (G : JG) (d : Nat) : ∀ (n : Nat) (x1 : Int32) (σ : Mem), JO G mX12_dusk (d + 3) 2 [some (.ref (G.1 + off 1000)), some (.int x1), none] [] σ rV (X12_dusk_2 n x1 σ) := by
  intro n
  induction n with
  | zero =>
    intro x1 σ
    exact JO_none
  | succ n ih =>
    intro x1 σ
    rw [X12_dusk_2]
    refine JO_iload_n (pc := 2) dX12_dusk_2 rfl ?_
    refine JO_bipush (pc := 3) (a := 36) dX12_dusk_3 (by decide) ?_
    refine JO_icmp_ge (pc := 5) (tgt := 122) dX12_dusk_5 (by decide) ?_ ?_
    · exact JO_sub (l_sub_some (l_sub_none (l_sub_none (l_sub_nil)))) (w_X12_dusk_122 G d  σ)
    · refine JO_aload_n (pc := 8) dX12_dusk_8 rfl ?_
      refine JO_getI (pc := 9) fl_X12_407 rfl fkX12_hasInterest dX12_dusk_9 ?_
      refine JO_if_eq (pc := 12) (tgt := 122) dX12_dusk_12 (by decide) ?_ ?_
      · exact JO_sub (l_sub_some (l_sub_none (l_sub_none (l_sub_nil)))) (w_X12_dusk_122 G d  σ)
      · refine JO_aload_n (pc := 15) dX12_dusk_15 rfl ?_
        refine JO_getR (pc := 16) fl_X12_114 rfl fkX12_owed dX12_dusk_16 ?_
        refine JO_iload_n (pc := 19) dX12_dusk_19 rfl ?_
        refine JO_iald (pc := 20) akX12_owed dX12_dusk_20 ?_
        refine JO_if_ne (pc := 21) (tgt := 27) dX12_dusk_21 (by decide) ?_ ?_
        · refine JO_aload_n (pc := 27) dX12_dusk_27 rfl ?_
          refine JO_callVv (pc := 28) [] lk_X12_441 rfl (ci := 12) rfl shX12 (w_X12_noAsks G (d + 2)  σ) rfl rfl (Nat.le_of_ble_eq_true rfl) dX12_dusk_28 (fun σ2 => ?_)
          refine JO_aload_n (pc := 31) dX12_dusk_31 rfl ?_
          refine JO_getR (pc := 32) fl_X12_45 rfl fkX12_asks dX12_dusk_32 ?_
          refine JO_iconst (pc := 35) (a := 0) dX12_dusk_35 (by decide) ?_
          refine JO_aload_n (pc := 36) dX12_dusk_36 rfl ?_
          refine JO_getR (pc := 37) fl_X12_114 rfl fkX12_owed dX12_dusk_37 ?_
          refine JO_iload_n (pc := 40) dX12_dusk_40 rfl ?_
          refine JO_iald (pc := 41) akX12_owed dX12_dusk_41 ?_
          refine JO_iastc (pc := 42) (k := 0) akX12_asks (by decide) (by decide) dX12_dusk_42 (fun σ3 => ?_)
          refine JO_aload_n (pc := 43) dX12_dusk_43 rfl ?_
          refine JO_getR (pc := 44) fl_X12_45 rfl fkX12_asks dX12_dusk_44 ?_
          refine JO_iconst (pc := 47) (a := 1) dX12_dusk_47 (by decide) ?_
          refine JO_aload_n (pc := 48) dX12_dusk_48 rfl ?_
          refine JO_getI (pc := 49) fl_X12_435 rfl fkX12_date dX12_dusk_49 ?_
          refine JO_iastc (pc := 52) (k := 1) akX12_asks (by decide) (by decide) dX12_dusk_52 (fun σ4 => ?_)
          refine JO_aload_n (pc := 53) dX12_dusk_53 rfl ?_
          refine JO_iconst (pc := 54) (a := 1) dX12_dusk_54 (by decide) ?_
          refine JO_callVi (pc := 55) [.int 1] lk_X12_444 rfl (ci := 12) rfl shX12 (w_X12_worked G d 1 σ4) rfl rfl (Nat.le_of_ble_eq_true rfl) dX12_dusk_55 (fun r5 => ?_)
          refine JO_nm (fun v6 => ?_)
          refine JO_istore_n (pc := 58) (L' := [some (.ref (G.1 + off 1000)), some (.int x1), some (.int v6)]) dX12_dusk_58 rfl rfl rfl ?_
          refine JO_iload_n (pc := 59) dX12_dusk_59 rfl ?_
          refine JO_if_ge (pc := 60) (tgt := 67) dX12_dusk_60 (by decide) ?_ ?_
          · refine JO_iload_n (pc := 67) dX12_dusk_67 rfl ?_
            refine JO_sipush (pc := 68) (a := 9999) dX12_dusk_68 (by decide) ?_
            refine JO_icmp_le (pc := 71) (tgt := 80) dX12_dusk_71 (by decide) ?_ ?_
            · refine JO_iload_n (pc := 80) dX12_dusk_80 rfl ?_
              exact JO_sub (l_sub_some (l_sub_some (l_sub_none (l_sub_nil)))) (w_X12_dusk_81 G d _ (w_X12_dusk_116 G d _ (ih)) x1 v6 r5.2)
            · refine JO_sipush (pc := 74) (a := 9999) dX12_dusk_74 (by decide) ?_
              refine JO_goto (pc := 77) (tgt := 81) dX12_dusk_77 (by decide) ?_
              exact JO_sub (l_sub_some (l_sub_some (l_sub_none (l_sub_nil)))) (w_X12_dusk_81 G d _ (w_X12_dusk_116 G d _ (ih)) x1 9999 r5.2)
          · refine JO_iconst (pc := 63) (a := 0) dX12_dusk_63 (by decide) ?_
            refine JO_goto (pc := 64) (tgt := 81) dX12_dusk_64 (by decide) ?_
            exact JO_sub (l_sub_some (l_sub_some (l_sub_none (l_sub_nil)))) (w_X12_dusk_81 G d _ (w_X12_dusk_116 G d _ (ih)) x1 0 r5.2)
        · refine JO_goto (pc := 24) (tgt := 116) dX12_dusk_24 (by decide) ?_
          exact JO_sub (l_sub_some (l_sub_some (l_sub_none (l_sub_nil)))) (w_X12_dusk_116 G d _ (ih) x1 σ)
set_option maxHeartbeats 4000000 in
set_option maxRecDepth 100000 in
theorem w_X12_dusk (G : JG) (d : Nat) (σ : Mem) : JS G mX12_dusk (d + 3) [.ref (G.1 + off 1000)] σ rV (X12_dusk σ) := by
  refine JS_of 2 (by decide +kernel) (Nat.le_of_ble_eq_true rfl) (L := [some (.ref (G.1 + off 1000)), none, none]) rfl ?_
  unfold X12_dusk
  refine JO_iconst (pc := 0) (a := 0) dX12_dusk_0 (by decide) ?_
  refine JO_nm (fun v1 => ?_)
  refine JO_istore_n (pc := 1) (L' := [some (.ref (G.1 + off 1000)), some (.int v1), none]) dX12_dusk_1 rfl rfl rfl ?_
  exact JO_sub (l_sub_some (l_sub_some (l_sub_none (l_sub_nil)))) (w_X12_dusk_2 G d fu v1 σ)
set_option maxHeartbeats 4000000 in
set_option maxRecDepth 100000 in
theorem w_X12_goHour_33 (G : JG) (d : Nat) : ∀ (n : Nat) (x1 : Int32) (σ : Mem), JO G mX12_goHour (d + 5) 33 [some (.ref (G.1 + off 1000)), some (.int x1)] [] σ rV (X12_goHour_33 n x1 σ) := by
  intro n
  induction n with
  | zero =>
    intro x1 σ
    exact JO_none
  | succ n ih =>
    intro x1 σ
    rw [X12_goHour_33]
    refine JO_iload_n (pc := 33) dX12_goHour_33 rfl ?_
    refine JO_aload_n (pc := 34) dX12_goHour_34 rfl ?_
    refine JO_getI (pc := 35) fl_X12_401 rfl fkX12_people dX12_goHour_35 ?_
    refine JO_icmp_ge (pc := 38) (tgt := 52) dX12_goHour_38 (by decide) ?_ ?_
    · refine JO_aload_n (pc := 52) dX12_goHour_52 rfl ?_
      refine JO_dup (pc := 53) dX12_goHour_53 rfl ?_
      refine JO_getI (pc := 54) fl_X12_438 rfl fkX12_hour dX12_goHour_54 ?_
      refine JO_iconst (pc := 57) (a := 1) dX12_goHour_57 (by decide) ?_
      refine JO_iadd (pc := 58) dX12_goHour_58 ?_
      refine JO_putI (pc := 59) fl_X12_438 rfl fkX12_hour dX12_goHour_59 (fun σ7 => ?_)
      refine JO_aload_n (pc := 62) dX12_goHour_62 rfl ?_
      refine JO_getI (pc := 63) fl_X12_438 rfl fkX12_hour dX12_goHour_63 ?_
      refine JO_aload_n (pc := 66) dX12_goHour_66 rfl ?_
      refine JO_getI (pc := 67) fl_X12_96 rfl fkX12_day dX12_goHour_67 ?_
      refine JO_icmp_ne (pc := 70) (tgt := 77) dX12_goHour_70 (by decide) ?_ ?_
      · exact JO_retv (pc := 77) rfl dX12_goHour_77
      · refine JO_aload_n (pc := 73) dX12_goHour_73 rfl ?_
        refine JO_callVv (pc := 74) [] lk_X12_478 rfl (ci := 12) rfl shX12 (w_X12_dusk G (d + 1)  σ7) rfl rfl (Nat.le_of_ble_eq_true rfl) dX12_goHour_74 (fun σ8 => ?_)
        exact JO_retv (pc := 77) rfl dX12_goHour_77
    · refine JO_aload_n (pc := 41) dX12_goHour_41 rfl ?_
      refine JO_iload_n (pc := 42) dX12_goHour_42 rfl ?_
      refine JO_callVv (pc := 43) [.int x1] lk_X12_475 rfl (ci := 12) rfl shX12 (w_X12_pay G d x1 σ) rfl rfl (Nat.le_of_ble_eq_true rfl) dX12_goHour_43 (fun σ9 => ?_)
      refine JO_inc (pc := 46) (b := 1) (L' := fun v10 => [some (.ref (G.1 + off 1000)), some (.int v10)]) dX12_goHour_46 rfl rfl (by decide) rfl (fun _ => rfl) (fun v10 => ?_)
      refine JO_goto (pc := 49) (tgt := 33) dX12_goHour_49 (by decide) ?_
      exact JO_sub (l_sub_some (l_sub_some (l_sub_nil))) (ih v10 σ9)
set_option maxHeartbeats 4000000 in
set_option maxRecDepth 100000 in
theorem w_X12_goHour_6 (G : JG) (d : Nat) : ∀ (n : Nat) (x1 : Int32) (σ : Mem), JO G mX12_goHour (d + 5) 6 [some (.ref (G.1 + off 1000)), some (.int x1)] [] σ rV (X12_goHour_6 n x1 σ) := by
  intro n
  induction n with
  | zero =>
    intro x1 σ
    exact JO_none
  | succ n ih =>
    intro x1 σ
    rw [X12_goHour_6]
    refine JO_iload_n (pc := 6) dX12_goHour_6 rfl ?_
    refine JO_aload_n (pc := 7) dX12_goHour_7 rfl ?_
    refine JO_getI (pc := 8) fl_X12_401 rfl fkX12_people dX12_goHour_8 ?_
    refine JO_icmp_ge (pc := 11) (tgt := 31) dX12_goHour_11 (by decide) ?_ ?_
    · refine JO_iconst (pc := 31) (a := 0) dX12_goHour_31 (by decide) ?_
      refine JO_nm (fun v3 => ?_)
      refine JO_istore_n (pc := 32) (L' := [some (.ref (G.1 + off 1000)), some (.int v3)]) dX12_goHour_32 rfl rfl rfl ?_
      exact JO_sub (l_sub_some (l_sub_some (l_sub_nil))) (w_X12_goHour_33 G d fu v3 σ)
    · refine JO_aload_n (pc := 14) dX12_goHour_14 rfl ?_
      refine JO_getR (pc := 15) fl_X12_127 rfl fkX12_waits dX12_goHour_15 ?_
      refine JO_iload_n (pc := 18) dX12_goHour_18 rfl ?_
      refine JO_aload_n (pc := 19) dX12_goHour_19 rfl ?_
      refine JO_iload_n (pc := 20) dX12_goHour_20 rfl ?_
      refine JO_callVi (pc := 21) [.int x1] lk_X12_472 rfl (ci := 12) rfl shX12 (w_X12_doesWait G (d + 3) x1 σ) rfl rfl (Nat.le_of_ble_eq_true rfl) dX12_goHour_21 (fun r4 => ?_)
      refine JO_zast (pc := 24) akX12_waits dX12_goHour_24 (fun σ5 => ?_)
      refine JO_inc (pc := 25) (b := 1) (L' := fun v6 => [some (.ref (G.1 + off 1000)), some (.int v6)]) dX12_goHour_25 rfl rfl (by decide) rfl (fun _ => rfl) (fun v6 => ?_)
      refine JO_goto (pc := 28) (tgt := 6) dX12_goHour_28 (by decide) ?_
      exact JO_sub (l_sub_some (l_sub_some (l_sub_nil))) (ih v6 σ5)
set_option maxHeartbeats 4000000 in
set_option maxRecDepth 100000 in
theorem w_X12_goHour (G : JG) (d : Nat) (σ : Mem) : JS G mX12_goHour (d + 5) [.ref (G.1 + off 1000)] σ rV (X12_goHour σ) := by
  refine JS_of 1 (by decide +kernel) (Nat.le_of_ble_eq_true rfl) (L := [some (.ref (G.1 + off 1000)), none]) rfl ?_
  unfold X12_goHour
  refine JO_aload_n (pc := 0) dX12_goHour_0 rfl ?_
  refine JO_callVv (pc := 1) [] lk_X12_469 rfl (ci := 12) rfl shX12 (w_X12_goOut G (d + 2)  σ) rfl rfl (Nat.le_of_ble_eq_true rfl) dX12_goHour_1 (fun σ1 => ?_)
  refine JO_iconst (pc := 4) (a := 0) dX12_goHour_4 (by decide) ?_
  refine JO_nm (fun v2 => ?_)
  refine JO_istore_n (pc := 5) (L' := [some (.ref (G.1 + off 1000)), some (.int v2)]) dX12_goHour_5 rfl rfl rfl ?_
  exact JO_sub (l_sub_some (l_sub_some (l_sub_nil))) (w_X12_goHour_6 G d fu v2 σ1)
set_option maxHeartbeats 4000000 in
set_option maxRecDepth 100000 in
theorem w_X12_goHours_2 (G : JG) (d : Nat) : ∀ (n : Nat) (x1 : Int32) (x2 : Int32) (σ : Mem), JO G mX12_goHours (d + 6) 2 [some (.ref (G.1 + off 1000)), some (.int x1), some (.int x2)] [] σ rV (X12_goHours_2 n x1 x2 σ) := by
  intro n
  induction n with
  | zero =>
    intro x1 x2 σ
    exact JO_none
  | succ n ih =>
    intro x1 x2 σ
    rw [X12_goHours_2]
    refine JO_iload_n (pc := 2) dX12_goHours_2 rfl ?_
    refine JO_iload_n (pc := 3) dX12_goHours_3 rfl ?_
    refine JO_icmp_ge (pc := 4) (tgt := 17) dX12_goHours_4 (by decide) ?_ ?_
    · exact JO_retv (pc := 17) rfl dX12_goHours_17
    · refine JO_aload_n (pc := 7) dX12_goHours_7 rfl ?_
      refine JO_callVv (pc := 8) [] lk_X12_481 rfl (ci := 12) rfl shX12 (w_X12_goHour G d  σ) rfl rfl (Nat.le_of_ble_eq_true rfl) dX12_goHours_8 (fun σ2 => ?_)
      refine JO_inc (pc := 11) (b := 1) (L' := fun v3 => [some (.ref (G.1 + off 1000)), some (.int x1), some (.int v3)]) dX12_goHours_11 rfl rfl (by decide) rfl (fun _ => rfl) (fun v3 => ?_)
      refine JO_goto (pc := 14) (tgt := 2) dX12_goHours_14 (by decide) ?_
      exact JO_sub (l_sub_some (l_sub_some (l_sub_some (l_sub_nil)))) (ih x1 v3 σ2)
set_option maxHeartbeats 4000000 in
set_option maxRecDepth 100000 in
theorem w_X12_goHours (G : JG) (d : Nat) (x1 : Int32) (σ : Mem) : JS G mX12_goHours (d + 6) [.ref (G.1 + off 1000), .int x1] σ rV (X12_goHours x1 σ) := by
  refine JS_of 1 (by decide +kernel) (Nat.le_of_ble_eq_true rfl) (L := [some (.ref (G.1 + off 1000)), some (.int x1), none]) rfl ?_
  unfold X12_goHours
  refine JO_iconst (pc := 0) (a := 0) dX12_goHours_0 (by decide) ?_
  refine JO_nm (fun v1 => ?_)
  refine JO_istore_n (pc := 1) (L' := [some (.ref (G.1 + off 1000)), some (.int x1), some (.int v1)]) dX12_goHours_1 rfl rfl rfl ?_
  exact JO_sub (l_sub_some (l_sub_some (l_sub_some (l_sub_nil)))) (w_X12_goHours_2 G d fu x1 v1 σ)
set_option maxHeartbeats 4000000 in
set_option maxRecDepth 100000 in
theorem w_X12_person (G : JG) (d : Nat) (x1 : Int32) (x2 : Int32) (σ : Mem) : JS G mX12_person (d + 2) [.ref (G.1 + off 1000), .int x1, .int x2] σ rI (X12_person x1 x2 σ) := by
  refine JS_of 0 (by decide +kernel) (Nat.le_of_ble_eq_true rfl) (L := [some (.ref (G.1 + off 1000)), some (.int x1), some (.int x2)]) rfl ?_
  unfold X12_person
  refine JO_aload_n (pc := 0) dX12_person_0 rfl ?_
  refine JO_iload_n (pc := 1) dX12_person_1 rfl ?_
  refine JO_callVi (pc := 2) [.int x1] lk_X12_432 rfl (ci := 12) rfl shX12 (w_X12_isPerson G d x1 σ) rfl rfl (Nat.le_of_ble_eq_true rfl) dX12_person_2 (fun r1 => ?_)
  refine JO_if_ne (pc := 5) (tgt := 11) dX12_person_5 (by decide) ?_ ?_
  · refine JO_iload_n (pc := 11) dX12_person_11 rfl ?_
    refine JO_ite (fun hc0 => ?_) (fun hc0 => ?_)
    · rw [hc0]
      refine JO_tin (pc := 12) (tgt := 68) dX12_person_12 (by decide) (by decide) rfl (by decide) ?_
      refine JO_aload_n (pc := 68) dX12_person_68 rfl ?_
      refine JO_getR (pc := 69) fl_X12_99 rfl fkX12_now dX12_person_69 ?_
      refine JO_iconst (pc := 72) (a := 0) dX12_person_72 (by decide) ?_
      refine JO_iload_n (pc := 73) dX12_person_73 rfl ?_
      refine JO_iadd (pc := 74) dX12_person_74 ?_
      refine JO_iald (pc := 75) akX12_now dX12_person_75 ?_
      exact JO_reti (pc := 76) rfl dX12_person_76
    refine JO_ite (fun hc1 => ?_) (fun hc1 => ?_)
    · rw [hc1]
      refine JO_tin (pc := 12) (tgt := 77) dX12_person_12 (by decide) (by decide) rfl (by decide) ?_
      refine JO_aload_n (pc := 77) dX12_person_77 rfl ?_
      refine JO_getR (pc := 78) fl_X12_99 rfl fkX12_now dX12_person_78 ?_
      refine JO_bipush (pc := 81) (a := 6) dX12_person_81 (by decide) ?_
      refine JO_iload_n (pc := 83) dX12_person_83 rfl ?_
      refine JO_iadd (pc := 84) dX12_person_84 ?_
      refine JO_iald (pc := 85) akX12_now dX12_person_85 ?_
      exact JO_reti (pc := 86) rfl dX12_person_86
    refine JO_ite (fun hc2 => ?_) (fun hc2 => ?_)
    · rw [hc2]
      refine JO_tin (pc := 12) (tgt := 87) dX12_person_12 (by decide) (by decide) rfl (by decide) ?_
      refine JO_aload_n (pc := 87) dX12_person_87 rfl ?_
      refine JO_getR (pc := 88) fl_X12_99 rfl fkX12_now dX12_person_88 ?_
      refine JO_bipush (pc := 91) (a := 12) dX12_person_91 (by decide) ?_
      refine JO_iload_n (pc := 93) dX12_person_93 rfl ?_
      refine JO_iadd (pc := 94) dX12_person_94 ?_
      refine JO_iald (pc := 95) akX12_now dX12_person_95 ?_
      exact JO_reti (pc := 96) rfl dX12_person_96
    refine JO_ite (fun hc3 => ?_) (fun hc3 => ?_)
    · rw [hc3]
      refine JO_tin (pc := 12) (tgt := 97) dX12_person_12 (by decide) (by decide) rfl (by decide) ?_
      refine JO_aload_n (pc := 97) dX12_person_97 rfl ?_
      refine JO_getR (pc := 98) fl_X12_99 rfl fkX12_now dX12_person_98 ?_
      refine JO_bipush (pc := 101) (a := 18) dX12_person_101 (by decide) ?_
      refine JO_iload_n (pc := 103) dX12_person_103 rfl ?_
      refine JO_iadd (pc := 104) dX12_person_104 ?_
      refine JO_iald (pc := 105) akX12_now dX12_person_105 ?_
      exact JO_reti (pc := 106) rfl dX12_person_106
    refine JO_ite (fun hc4 => ?_) (fun hc4 => ?_)
    · rw [hc4]
      refine JO_tin (pc := 12) (tgt := 107) dX12_person_12 (by decide) (by decide) rfl (by decide) ?_
      refine JO_aload_n (pc := 107) dX12_person_107 rfl ?_
      refine JO_getR (pc := 108) fl_X12_72 rfl fkX12_door dX12_person_108 ?_
      refine JO_iload_n (pc := 111) dX12_person_111 rfl ?_
      refine JO_iald (pc := 112) akX12_door dX12_person_112 ?_
      exact JO_reti (pc := 113) rfl dX12_person_113
    refine JO_ite (fun hc5 => ?_) (fun hc5 => ?_)
    · rw [hc5]
      refine JO_tin (pc := 12) (tgt := 114) dX12_person_12 (by decide) (by decide) rfl (by decide) ?_
      refine JO_aload_n (pc := 114) dX12_person_114 rfl ?_
      refine JO_getR (pc := 115) fl_X12_75 rfl fkX12_from dX12_person_115 ?_
      refine JO_iload_n (pc := 118) dX12_person_118 rfl ?_
      refine JO_iald (pc := 119) akX12_from dX12_person_119 ?_
      exact JO_reti (pc := 120) rfl dX12_person_120
    refine JO_ite (fun hc6 => ?_) (fun hc6 => ?_)
    · rw [hc6]
      refine JO_tin (pc := 12) (tgt := 121) dX12_person_12 (by decide) (by decide) rfl (by decide) ?_
      refine JO_aload_n (pc := 121) dX12_person_121 rfl ?_
      refine JO_getR (pc := 122) fl_X12_78 rfl fkX12_until dX12_person_122 ?_
      refine JO_iload_n (pc := 125) dX12_person_125 rfl ?_
      refine JO_iald (pc := 126) akX12_until dX12_person_126 ?_
      exact JO_reti (pc := 127) rfl dX12_person_127
    refine JO_ite (fun hc7 => ?_) (fun hc7 => ?_)
    · rw [hc7]
      refine JO_tin (pc := 12) (tgt := 128) dX12_person_12 (by decide) (by decide) rfl (by decide) ?_
      refine JO_aload_n (pc := 128) dX12_person_128 rfl ?_
      refine JO_getR (pc := 129) fl_X12_81 rfl fkX12_chairs dX12_person_129 ?_
      refine JO_iload_n (pc := 132) dX12_person_132 rfl ?_
      refine JO_iald (pc := 133) akX12_chairs dX12_person_133 ?_
      exact JO_reti (pc := 134) rfl dX12_person_134
    refine JO_ite (fun hc8 => ?_) (fun hc8 => ?_)
    · rw [hc8]
      refine JO_tin (pc := 12) (tgt := 135) dX12_person_12 (by decide) (by decide) rfl (by decide) ?_
      refine JO_aload_n (pc := 135) dX12_person_135 rfl ?_
      refine JO_getR (pc := 136) fl_X12_84 rfl fkX12_rest dX12_person_136 ?_
      refine JO_iload_n (pc := 139) dX12_person_139 rfl ?_
      refine JO_iald (pc := 140) akX12_rest dX12_person_140 ?_
      exact JO_reti (pc := 141) rfl dX12_person_141
    refine JO_ite (fun hc9 => ?_) (fun hc9 => ?_)
    · rw [hc9]
      refine JO_tin (pc := 12) (tgt := 142) dX12_person_12 (by decide) (by decide) rfl (by decide) ?_
      refine JO_aload_n (pc := 142) dX12_person_142 rfl ?_
      refine JO_getR (pc := 143) fl_X12_87 rfl fkX12_price dX12_person_143 ?_
      refine JO_iload_n (pc := 146) dX12_person_146 rfl ?_
      refine JO_iald (pc := 147) akX12_price dX12_person_147 ?_
      exact JO_reti (pc := 148) rfl dX12_person_148
    have z0 : x2.toInt ≠ 0 := ne_toInt hc0
    have z1 : x2.toInt ≠ 1 := ne_toInt hc1
    have z2 : x2.toInt ≠ 2 := ne_toInt hc2
    have z3 : x2.toInt ≠ 3 := ne_toInt hc3
    have z4 : x2.toInt ≠ 4 := ne_toInt hc4
    have z5 : x2.toInt ≠ 5 := ne_toInt hc5
    have z6 : x2.toInt ≠ 6 := ne_toInt hc6
    have z7 : x2.toInt ≠ 7 := ne_toInt hc7
    have z8 : x2.toInt ≠ 8 := ne_toInt hc8
    have z9 : x2.toInt ≠ 9 := ne_toInt hc9
    refine JO_tout (pc := 12) (tgt := 149) dX12_person_12 (by omega) (by decide) ?_
    refine JO_bipush (pc := 149) (a := (-2)) dX12_person_149 (by decide) ?_
    exact JO_reti (pc := 151) rfl dX12_person_151
  · refine JO_bipush (pc := 8) (a := (-2)) dX12_person_8 (by decide) ?_
    exact JO_reti (pc := 10) rfl dX12_person_10
set_option maxHeartbeats 4000000 in
set_option maxRecDepth 100000 in
theorem w_X12_owed (G : JG) (d : Nat) (x1 : Int32) (x2 : Int32) (σ : Mem) : JS G mX12_owed (d + 3) [.ref (G.1 + off 1000), .int x1, .int x2] σ rI (X12_owed x1 x2 σ) := by
  refine JS_of 0 (by decide +kernel) (Nat.le_of_ble_eq_true rfl) (L := [some (.ref (G.1 + off 1000)), some (.int x1), some (.int x2)]) rfl ?_
  unfold X12_owed
  refine JO_aload_n (pc := 0) dX12_owed_0 rfl ?_
  refine JO_iload_n (pc := 1) dX12_owed_1 rfl ?_
  refine JO_iload_n (pc := 2) dX12_owed_2 rfl ?_
  refine JO_callVi (pc := 3) [.int x1, .int x2] lk_X12_484 rfl (ci := 12) rfl shX12 (w_X12_areTwo G d x1 x2 σ) rfl rfl (Nat.le_of_ble_eq_true rfl) dX12_owed_3 (fun r1 => ?_)
  refine JO_if_eq (pc := 6) (tgt := 26) dX12_owed_6 (by decide) ?_ ?_
  · refine JO_iconst (pc := 26) (a := (-1)) dX12_owed_26 (by decide) ?_
    exact JO_reti (pc := 27) rfl dX12_owed_27
  · refine JO_aload_n (pc := 9) dX12_owed_9 rfl ?_
    refine JO_getR (pc := 10) fl_X12_99 rfl fkX12_now dX12_owed_10 ?_
    refine JO_bipush (pc := 13) (a := 24) dX12_owed_13 (by decide) ?_
    refine JO_bipush (pc := 15) (a := 6) dX12_owed_15 (by decide) ?_
    refine JO_iload_n (pc := 17) dX12_owed_17 rfl ?_
    refine JO_imul (pc := 18) dX12_owed_18 ?_
    refine JO_iadd (pc := 19) dX12_owed_19 ?_
    refine JO_iload_n (pc := 20) dX12_owed_20 rfl ?_
    refine JO_iadd (pc := 21) dX12_owed_21 ?_
    refine JO_iald (pc := 22) akX12_now dX12_owed_22 ?_
    refine JO_goto (pc := 23) (tgt := 27) dX12_owed_23 (by decide) ?_
    exact JO_reti (pc := 27) rfl dX12_owed_27
set_option maxHeartbeats 4000000 in
set_option maxRecDepth 100000 in
theorem w_X12_sumOf_46 (G : JG) (d : Nat) (k5 : Int32 → Int32 → Int32 → Int32 → Mem → Option (Int32 × Mem)) (hk5 : ∀ (x1 : Int32) (x2 : Int32) (x3 : Int32) (x4 : Int32) (σ : Mem), JO G mX12_sumOf d 5 [some (.ref (G.1 + off 1000)), some (.int x1), some (.int x2), some (.int x3), some (.int x4)] [] σ rI (k5 x1 x2 x3 x4 σ)) : ∀ (x1 : Int32) (x2 : Int32) (x4 : Int32) (s0 : Int32) (s1 : Int32) (σ : Mem), JO G mX12_sumOf d 46 [some (.ref (G.1 + off 1000)), some (.int x1), some (.int x2), none, some (.int x4)] [.int s0, .int s1] σ rI (X12_sumOf_46 k5 x1 x2 x4 s0 s1 σ) := by
  intro x1 x2 x4 s0 s1 σ
  unfold X12_sumOf_46
  refine JO_iadd (pc := 46) dX12_sumOf_46 ?_
  refine JO_nm (fun v3 => ?_)
  refine JO_istore_n (pc := 47) (L' := [some (.ref (G.1 + off 1000)), some (.int x1), some (.int x2), some (.int v3), some (.int x4)]) dX12_sumOf_47 rfl rfl rfl ?_
  refine JO_inc (pc := 48) (b := 1) (L' := fun v4 => [some (.ref (G.1 + off 1000)), some (.int x1), some (.int x2), some (.int v3), some (.int v4)]) dX12_sumOf_48 rfl rfl (by decide) rfl (fun _ => rfl) (fun v4 => ?_)
  refine JO_goto (pc := 51) (tgt := 5) dX12_sumOf_51 (by decide) ?_
  exact JO_sub (l_sub_some (l_sub_some (l_sub_some (l_sub_some (l_sub_some (l_sub_nil)))))) (hk5 x1 x2 v3 v4 σ)
set_option maxHeartbeats 4000000 in
set_option maxRecDepth 100000 in
theorem w_X12_sumOf_5 (G : JG) (d : Nat) : ∀ (n : Nat) (x1 : Int32) (x2 : Int32) (x3 : Int32) (x4 : Int32) (σ : Mem), JO G mX12_sumOf d 5 [some (.ref (G.1 + off 1000)), some (.int x1), some (.int x2), some (.int x3), some (.int x4)] [] σ rI (X12_sumOf_5 n x1 x2 x3 x4 σ) := by
  intro n
  induction n with
  | zero =>
    intro x1 x2 x3 x4 σ
    exact JO_none
  | succ n ih =>
    intro x1 x2 x3 x4 σ
    rw [X12_sumOf_5]
    refine JO_iload (pc := 5) dX12_sumOf_5 rfl ?_
    refine JO_aload_n (pc := 7) dX12_sumOf_7 rfl ?_
    refine JO_getI (pc := 8) fl_X12_401 rfl fkX12_people dX12_sumOf_8 ?_
    refine JO_icmp_ge (pc := 11) (tgt := 54) dX12_sumOf_11 (by decide) ?_ ?_
    · refine JO_iload_n (pc := 54) dX12_sumOf_54 rfl ?_
      exact JO_reti (pc := 55) rfl dX12_sumOf_55
    · refine JO_iload_n (pc := 14) dX12_sumOf_14 rfl ?_
      refine JO_iload_n (pc := 15) dX12_sumOf_15 rfl ?_
      refine JO_if_eq (pc := 16) (tgt := 34) dX12_sumOf_16 (by decide) ?_ ?_
      · refine JO_aload_n (pc := 34) dX12_sumOf_34 rfl ?_
        refine JO_getR (pc := 35) fl_X12_114 rfl fkX12_owed dX12_sumOf_35 ?_
        refine JO_bipush (pc := 38) (a := 6) dX12_sumOf_38 (by decide) ?_
        refine JO_iload_n (pc := 40) dX12_sumOf_40 rfl ?_
        refine JO_imul (pc := 41) dX12_sumOf_41 ?_
        refine JO_iload (pc := 42) dX12_sumOf_42 rfl ?_
        refine JO_iadd (pc := 44) dX12_sumOf_44 ?_
        refine JO_iald (pc := 45) akX12_owed dX12_sumOf_45 ?_
        exact JO_sub (l_sub_some (l_sub_some (l_sub_some (l_sub_none (l_sub_some (l_sub_nil)))))) (w_X12_sumOf_46 G d _ (ih) x1 x2 x4 (σ.1 1033 ((6 * x1) + x4).toNatClampNeg) x3 σ)
      · refine JO_aload_n (pc := 19) dX12_sumOf_19 rfl ?_
        refine JO_getR (pc := 20) fl_X12_114 rfl fkX12_owed dX12_sumOf_20 ?_
        refine JO_bipush (pc := 23) (a := 6) dX12_sumOf_23 (by decide) ?_
        refine JO_iload (pc := 25) dX12_sumOf_25 rfl ?_
        refine JO_imul (pc := 27) dX12_sumOf_27 ?_
        refine JO_iload_n (pc := 28) dX12_sumOf_28 rfl ?_
        refine JO_iadd (pc := 29) dX12_sumOf_29 ?_
        refine JO_iald (pc := 30) akX12_owed dX12_sumOf_30 ?_
        refine JO_goto (pc := 31) (tgt := 46) dX12_sumOf_31 (by decide) ?_
        exact JO_sub (l_sub_some (l_sub_some (l_sub_some (l_sub_none (l_sub_some (l_sub_nil)))))) (w_X12_sumOf_46 G d _ (ih) x1 x2 x4 (σ.1 1033 ((6 * x4) + x1).toNatClampNeg) x3 σ)
set_option maxHeartbeats 4000000 in
set_option maxRecDepth 100000 in
theorem w_X12_sumOf (G : JG) (d : Nat) (x1 : Int32) (x2 : Int32) (σ : Mem) : JS G mX12_sumOf d [.ref (G.1 + off 1000), .int x1, .int x2] σ rI (X12_sumOf x1 x2 σ) := by
  refine JS_of 2 (by decide +kernel) (Nat.le_of_ble_eq_true rfl) (L := [some (.ref (G.1 + off 1000)), some (.int x1), some (.int x2), none, none]) rfl ?_
  unfold X12_sumOf
  refine JO_iconst (pc := 0) (a := 0) dX12_sumOf_0 (by decide) ?_
  refine JO_nm (fun v1 => ?_)
  refine JO_istore_n (pc := 1) (L' := [some (.ref (G.1 + off 1000)), some (.int x1), some (.int x2), some (.int v1), none]) dX12_sumOf_1 rfl rfl rfl ?_
  refine JO_iconst (pc := 2) (a := 0) dX12_sumOf_2 (by decide) ?_
  refine JO_nm (fun v2 => ?_)
  refine JO_istore (pc := 3) (L' := [some (.ref (G.1 + off 1000)), some (.int x1), some (.int x2), some (.int v1), some (.int v2)]) dX12_sumOf_3 rfl rfl rfl ?_
  exact JO_sub (l_sub_some (l_sub_some (l_sub_some (l_sub_some (l_sub_some (l_sub_nil)))))) (w_X12_sumOf_5 G d fu x1 x2 v1 v2 σ)
set_option maxHeartbeats 4000000 in
set_option maxRecDepth 100000 in
theorem w_X12_sum (G : JG) (d : Nat) (x1 : Int32) (x2 : Int32) (σ : Mem) : JS G mX12_sum (d + 2) [.ref (G.1 + off 1000), .int x1, .int x2] σ rI (X12_sum x1 x2 σ) := by
  refine JS_of 0 (by decide +kernel) (Nat.le_of_ble_eq_true rfl) (L := [some (.ref (G.1 + off 1000)), some (.int x1), some (.int x2)]) rfl ?_
  unfold X12_sum
  refine JO_aload_n (pc := 0) dX12_sum_0 rfl ?_
  refine JO_callVv (pc := 1) [] lk_X12_487 rfl (ci := 12) rfl shX12 (w_X12_load G (d + 1)  σ) rfl rfl (Nat.le_of_ble_eq_true rfl) dX12_sum_1 (fun σ1 => ?_)
  refine JO_aload_n (pc := 4) dX12_sum_4 rfl ?_
  refine JO_iload_n (pc := 5) dX12_sum_5 rfl ?_
  refine JO_callVi (pc := 6) [.int x1] lk_X12_432 rfl (ci := 12) rfl shX12 (w_X12_isPerson G d x1 σ1) rfl rfl (Nat.le_of_ble_eq_true rfl) dX12_sum_6 (fun r2 => ?_)
  refine JO_if_eq (pc := 9) (tgt := 21) dX12_sum_9 (by decide) ?_ ?_
  · refine JO_iconst (pc := 21) (a := (-1)) dX12_sum_21 (by decide) ?_
    exact JO_reti (pc := 22) rfl dX12_sum_22
  · refine JO_aload_n (pc := 12) dX12_sum_12 rfl ?_
    refine JO_iload_n (pc := 13) dX12_sum_13 rfl ?_
    refine JO_iload_n (pc := 14) dX12_sum_14 rfl ?_
    refine JO_callVi (pc := 15) [.int x1, .int x2] lk_X12_490 rfl (ci := 12) rfl shX12 (w_X12_sumOf G (d + 1) x1 x2 r2.2) rfl rfl (Nat.le_of_ble_eq_true rfl) dX12_sum_15 (fun r3 => ?_)
    refine JO_goto (pc := 18) (tgt := 22) dX12_sum_18 (by decide) ?_
    exact JO_reti (pc := 22) rfl dX12_sum_22
set_option maxHeartbeats 4000000 in
set_option maxRecDepth 100000 in
theorem w_X12_wet (G : JG) (d : Nat) (x1 : Int32) (x2 : Int32) (σ : Mem) : JS G mX12_wet (d + 4) [.ref (G.1 + off 1000), .int x1, .int x2] σ rI (X12_wet x1 x2 σ) := by
  refine JS_of 0 (by decide +kernel) (Nat.le_of_ble_eq_true rfl) (L := [some (.ref (G.1 + off 1000)), some (.int x1), some (.int x2)]) rfl ?_
  unfold X12_wet
  refine JO_iload_n (pc := 0) dX12_wet_0 rfl ?_
  refine JO_iconst (pc := 1) (a := 0) dX12_wet_1 (by decide) ?_
  refine JO_sipush (pc := 2) (a := 999) dX12_wet_2 (by decide) ?_
  refine JO_callSi (pc := 5) [.int x1, .int 0, .int 999] lk_X12_428 rfl (w_X12_isIn G (d + 3) x1 0 999 σ) rfl rfl (Nat.le_of_ble_eq_true rfl) dX12_wet_5 (fun r1 => ?_)
  refine JO_if_eq (pc := 8) (tgt := 34) dX12_wet_8 (by decide) ?_ ?_
  · refine JO_iconst (pc := 34) (a := (-1)) dX12_wet_34 (by decide) ?_
    exact JO_reti (pc := 35) rfl dX12_wet_35
  · refine JO_iload_n (pc := 11) dX12_wet_11 rfl ?_
    refine JO_iconst (pc := 12) (a := 0) dX12_wet_12 (by decide) ?_
    refine JO_aload_n (pc := 13) dX12_wet_13 rfl ?_
    refine JO_getI (pc := 14) fl_X12_96 rfl fkX12_day dX12_wet_14 ?_
    refine JO_iconst (pc := 17) (a := 1) dX12_wet_17 (by decide) ?_
    refine JO_isub (pc := 18) dX12_wet_18 ?_
    refine JO_callSi (pc := 19) [.int x2, .int 0, .int ((r1.2.1 1000 46) - 1)] lk_X12_428 rfl (w_X12_isIn G (d + 3) x2 0 ((r1.2.1 1000 46) - 1) r1.2) rfl rfl (Nat.le_of_ble_eq_true rfl) dX12_wet_19 (fun r2 => ?_)
    refine JO_if_eq (pc := 22) (tgt := 34) dX12_wet_22 (by decide) ?_ ?_
    · refine JO_iconst (pc := 34) (a := (-1)) dX12_wet_34 (by decide) ?_
      exact JO_reti (pc := 35) rfl dX12_wet_35
    · refine JO_aload_n (pc := 25) dX12_wet_25 rfl ?_
      refine JO_iload_n (pc := 26) dX12_wet_26 rfl ?_
      refine JO_iload_n (pc := 27) dX12_wet_27 rfl ?_
      refine JO_callVi (pc := 28) [.int x1, .int x2] lk_X12_463 rfl (ci := 12) rfl shX12 (w_X12_wetAt G d x1 x2 r2.2) rfl rfl (Nat.le_of_ble_eq_true rfl) dX12_wet_28 (fun r3 => ?_)
      refine JO_goto (pc := 31) (tgt := 35) dX12_wet_31 (by decide) ?_
      exact JO_reti (pc := 35) rfl dX12_wet_35
set_option maxHeartbeats 4000000 in
set_option maxRecDepth 100000 in
theorem w_X12_pays (G : JG) (d : Nat) (x1 : Int32) (σ : Mem) : JS G mX12_pays (d + 6) [.ref (G.1 + off 1000), .int x1] σ rI (X12_pays x1 σ) := by
  refine JS_of 0 (by decide +kernel) (Nat.le_of_ble_eq_true rfl) (L := [some (.ref (G.1 + off 1000)), some (.int x1)]) rfl ?_
  unfold X12_pays
  refine JO_aload_n (pc := 0) dX12_pays_0 rfl ?_
  refine JO_iload_n (pc := 1) dX12_pays_1 rfl ?_
  refine JO_callVi (pc := 2) [.int x1] lk_X12_432 rfl (ci := 12) rfl shX12 (w_X12_isPerson G (d + 4) x1 σ) rfl rfl (Nat.le_of_ble_eq_true rfl) dX12_pays_2 (fun r1 => ?_)
  refine JO_if_ne (pc := 5) (tgt := 10) dX12_pays_5 (by decide) ?_ ?_
  · refine JO_aload_n (pc := 10) dX12_pays_10 rfl ?_
    refine JO_callVv (pc := 11) [] lk_X12_487 rfl (ci := 12) rfl shX12 (w_X12_load G (d + 5)  r1.2) rfl rfl (Nat.le_of_ble_eq_true rfl) dX12_pays_11 (fun σ2 => ?_)
    refine JO_aload_n (pc := 14) dX12_pays_14 rfl ?_
    refine JO_callVv (pc := 15) [] lk_X12_481 rfl (ci := 12) rfl shX12 (w_X12_goHour G d  σ2) rfl rfl (Nat.le_of_ble_eq_true rfl) dX12_pays_15 (fun σ3 => ?_)
    refine JO_aload_n (pc := 18) dX12_pays_18 rfl ?_
    refine JO_getR (pc := 19) fl_X12_130 rfl fkX12_paid dX12_pays_19 ?_
    refine JO_iload_n (pc := 22) dX12_pays_22 rfl ?_
    refine JO_iald (pc := 23) akX12_paid dX12_pays_23 ?_
    exact JO_reti (pc := 24) rfl dX12_pays_24
  · refine JO_iconst (pc := 8) (a := (-1)) dX12_pays_8 (by decide) ?_
    exact JO_reti (pc := 9) rfl dX12_pays_9
set_option maxHeartbeats 4000000 in
set_option maxRecDepth 100000 in
theorem w_X12_act_11 (G : JG) (d : Nat) (k49 : Mem → Option Mem) (hk49 : ∀ (σ : Mem), JO G mX12_act d 49 [some (.ref (G.1 + off 1000)), none] [] σ rV (k49 σ)) : ∀ (n : Nat) (x1 : Int32) (σ : Mem), JO G mX12_act d 11 [some (.ref (G.1 + off 1000)), some (.int x1)] [] σ rV (X12_act_11 k49 n x1 σ) := by
  intro n
  induction n with
  | zero =>
    intro x1 σ
    exact JO_none
  | succ n ih =>
    intro x1 σ
    rw [X12_act_11]
    refine JO_iload_n (pc := 11) dX12_act_11 rfl ?_
    refine JO_sipush (pc := 12) (a := 2496) dX12_act_12 (by decide) ?_
    refine JO_icmp_ge (pc := 15) (tgt := 39) dX12_act_15 (by decide) ?_ ?_
    · refine JO_aload_n (pc := 39) dX12_act_39 rfl ?_
      refine JO_dup (pc := 40) dX12_act_40 rfl ?_
      refine JO_getI (pc := 41) fl_X12_416 rfl fkX12_acts dX12_act_41 ?_
      refine JO_iconst (pc := 44) (a := 1) dX12_act_44 (by decide) ?_
      refine JO_isub (pc := 45) dX12_act_45 ?_
      refine JO_putI (pc := 46) fl_X12_416 rfl fkX12_acts dX12_act_46 (fun σ3 => ?_)
      exact JO_sub (l_sub_some (l_sub_none (l_sub_nil))) (hk49  σ3)
    · refine JO_aload_n (pc := 18) dX12_act_18 rfl ?_
      refine JO_getR (pc := 19) fl_X12_133 rfl fkX12_were dX12_act_19 ?_
      refine JO_iload_n (pc := 22) dX12_act_22 rfl ?_
      refine JO_aload_n (pc := 23) dX12_act_23 rfl ?_
      refine JO_getR (pc := 24) fl_X12_133 rfl fkX12_were dX12_act_24 ?_
      refine JO_bipush (pc := 27) (a := 64) dX12_act_27 (by decide) ?_
      refine JO_iload_n (pc := 29) dX12_act_29 rfl ?_
      refine JO_iadd (pc := 30) dX12_act_30 ?_
      refine JO_iald (pc := 31) akX12_were dX12_act_31 ?_
      refine JO_iast (pc := 32) akX12_were dX12_act_32 (fun σ4 => ?_)
      refine JO_inc (pc := 33) (b := 1) (L' := fun v5 => [some (.ref (G.1 + off 1000)), some (.int v5)]) dX12_act_33 rfl rfl (by decide) rfl (fun _ => rfl) (fun v5 => ?_)
      refine JO_goto (pc := 36) (tgt := 11) dX12_act_36 (by decide) ?_
      exact JO_sub (l_sub_some (l_sub_some (l_sub_nil))) (ih v5 σ4)
set_option maxHeartbeats 4000000 in
set_option maxRecDepth 100000 in
theorem w_X12_act_51 (G : JG) (d : Nat) : ∀ (n : Nat) (x1 : Int32) (σ : Mem), JO G mX12_act d 51 [some (.ref (G.1 + off 1000)), some (.int x1)] [] σ rV (X12_act_51 n x1 σ) := by
  intro n
  induction n with
  | zero =>
    intro x1 σ
    exact JO_none
  | succ n ih =>
    intro x1 σ
    rw [X12_act_51]
    refine JO_iload_n (pc := 51) dX12_act_51 rfl ?_
    refine JO_bipush (pc := 52) (a := 63) dX12_act_52 (by decide) ?_
    refine JO_icmp_ge (pc := 54) (tgt := 83) dX12_act_54 (by decide) ?_ ?_
    · refine JO_aload_n (pc := 83) dX12_act_83 rfl ?_
      refine JO_dup (pc := 84) dX12_act_84 rfl ?_
      refine JO_getI (pc := 85) fl_X12_416 rfl fkX12_acts dX12_act_85 ?_
      refine JO_iconst (pc := 88) (a := 1) dX12_act_88 (by decide) ?_
      refine JO_iadd (pc := 89) dX12_act_89 ?_
      refine JO_putI (pc := 90) fl_X12_416 rfl fkX12_acts dX12_act_90 (fun σ6 => ?_)
      refine JO_aload_n (pc := 93) dX12_act_93 rfl ?_
      refine JO_iconst (pc := 94) (a := 0) dX12_act_94 (by decide) ?_
      refine JO_putI (pc := 95) fl_X12_419 rfl fkX12_undone dX12_act_95 (fun σ7 => ?_)
      exact JO_retv (pc := 98) rfl dX12_act_98
    · refine JO_aload_n (pc := 57) dX12_act_57 rfl ?_
      refine JO_getR (pc := 58) fl_X12_133 rfl fkX12_were dX12_act_58 ?_
      refine JO_bipush (pc := 61) (a := 64) dX12_act_61 (by decide) ?_
      refine JO_aload_n (pc := 63) dX12_act_63 rfl ?_
      refine JO_getI (pc := 64) fl_X12_416 rfl fkX12_acts dX12_act_64 ?_
      refine JO_imul (pc := 67) dX12_act_67 ?_
      refine JO_iload_n (pc := 68) dX12_act_68 rfl ?_
      refine JO_iadd (pc := 69) dX12_act_69 ?_
      refine JO_aload_n (pc := 70) dX12_act_70 rfl ?_
      refine JO_getR (pc := 71) fl_X12_99 rfl fkX12_now dX12_act_71 ?_
      refine JO_iload_n (pc := 74) dX12_act_74 rfl ?_
      refine JO_iald (pc := 75) akX12_now dX12_act_75 ?_
      refine JO_iast (pc := 76) akX12_were dX12_act_76 (fun σ8 => ?_)
      refine JO_inc (pc := 77) (b := 1) (L' := fun v9 => [some (.ref (G.1 + off 1000)), some (.int v9)]) dX12_act_77 rfl rfl (by decide) rfl (fun _ => rfl) (fun v9 => ?_)
      refine JO_goto (pc := 80) (tgt := 51) dX12_act_80 (by decide) ?_
      exact JO_sub (l_sub_some (l_sub_some (l_sub_nil))) (ih v9 σ8)
set_option maxHeartbeats 4000000 in
set_option maxRecDepth 100000 in
theorem w_X12_act_49 (G : JG) (d : Nat) : ∀ (σ : Mem), JO G mX12_act d 49 [some (.ref (G.1 + off 1000)), none] [] σ rV (X12_act_49 σ) := by
  intro σ
  unfold X12_act_49
  refine JO_iconst (pc := 49) (a := 0) dX12_act_49 (by decide) ?_
  refine JO_nm (fun v2 => ?_)
  refine JO_istore_n (pc := 50) (L' := [some (.ref (G.1 + off 1000)), some (.int v2)]) dX12_act_50 rfl rfl rfl ?_
  exact JO_sub (l_sub_some (l_sub_some (l_sub_nil))) (w_X12_act_51 G d fu v2 σ)
set_option maxHeartbeats 4000000 in
set_option maxRecDepth 100000 in
theorem w_X12_act (G : JG) (d : Nat) (σ : Mem) : JS G mX12_act d [.ref (G.1 + off 1000)] σ rV (X12_act σ) := by
  refine JS_of 1 (by decide +kernel) (Nat.le_of_ble_eq_true rfl) (L := [some (.ref (G.1 + off 1000)), none]) rfl ?_
  unfold X12_act
  refine JO_aload_n (pc := 0) dX12_act_0 rfl ?_
  refine JO_getI (pc := 1) fl_X12_416 rfl fkX12_acts dX12_act_1 ?_
  refine JO_bipush (pc := 4) (a := 40) dX12_act_4 (by decide) ?_
  refine JO_icmp_ne (pc := 6) (tgt := 49) dX12_act_6 (by decide) ?_ ?_
  · exact JO_sub (l_sub_some (l_sub_none (l_sub_nil))) (w_X12_act_49 G d  σ)
  · refine JO_iconst (pc := 9) (a := 0) dX12_act_9 (by decide) ?_
    refine JO_nm (fun v1 => ?_)
    refine JO_istore_n (pc := 10) (L' := [some (.ref (G.1 + off 1000)), some (.int v1)]) dX12_act_10 rfl rfl rfl ?_
    exact JO_sub (l_sub_some (l_sub_some (l_sub_nil))) (w_X12_act_11 G d _ (w_X12_act_49 G d) fu v1 σ)
set_option maxHeartbeats 4000000 in
set_option maxRecDepth 100000 in
theorem w_X12_exchange_2 (G : JG) (d : Nat) : ∀ (n : Nat) (x1 : Int32) (x2 : Int32) (σ : Mem), JO G mX12_exchange d 2 [some (.ref (G.1 + off 1000)), some (.int x1), some (.int x2), none] [] σ rV (X12_exchange_2 n x1 x2 σ) := by
  intro n
  induction n with
  | zero =>
    intro x1 x2 σ
    exact JO_none
  | succ n ih =>
    intro x1 x2 σ
    rw [X12_exchange_2]
    refine JO_iload_n (pc := 2) dX12_exchange_2 rfl ?_
    refine JO_bipush (pc := 3) (a := 63) dX12_exchange_3 (by decide) ?_
    refine JO_icmp_ge (pc := 5) (tgt := 44) dX12_exchange_5 (by decide) ?_ ?_
    · exact JO_retv (pc := 44) rfl dX12_exchange_44
    · refine JO_aload_n (pc := 8) dX12_exchange_8 rfl ?_
      refine JO_getR (pc := 9) fl_X12_133 rfl fkX12_were dX12_exchange_9 ?_
      refine JO_iload_n (pc := 12) dX12_exchange_12 rfl ?_
      refine JO_iload_n (pc := 13) dX12_exchange_13 rfl ?_
      refine JO_iadd (pc := 14) dX12_exchange_14 ?_
      refine JO_iald (pc := 15) akX12_were dX12_exchange_15 ?_
      refine JO_nm (fun v2 => ?_)
      refine JO_istore_n (pc := 16) (L' := [some (.ref (G.1 + off 1000)), some (.int x1), some (.int x2), some (.int v2)]) dX12_exchange_16 rfl rfl rfl ?_
      refine JO_aload_n (pc := 17) dX12_exchange_17 rfl ?_
      refine JO_getR (pc := 18) fl_X12_133 rfl fkX12_were dX12_exchange_18 ?_
      refine JO_iload_n (pc := 21) dX12_exchange_21 rfl ?_
      refine JO_iload_n (pc := 22) dX12_exchange_22 rfl ?_
      refine JO_iadd (pc := 23) dX12_exchange_23 ?_
      refine JO_aload_n (pc := 24) dX12_exchange_24 rfl ?_
      refine JO_getR (pc := 25) fl_X12_99 rfl fkX12_now dX12_exchange_25 ?_
      refine JO_iload_n (pc := 28) dX12_exchange_28 rfl ?_
      refine JO_iald (pc := 29) akX12_now dX12_exchange_29 ?_
      refine JO_iast (pc := 30) akX12_were dX12_exchange_30 (fun σ3 => ?_)
      refine JO_aload_n (pc := 31) dX12_exchange_31 rfl ?_
      refine JO_getR (pc := 32) fl_X12_99 rfl fkX12_now dX12_exchange_32 ?_
      refine JO_iload_n (pc := 35) dX12_exchange_35 rfl ?_
      refine JO_iload_n (pc := 36) dX12_exchange_36 rfl ?_
      refine JO_iast (pc := 37) akX12_now dX12_exchange_37 (fun σ4 => ?_)
      refine JO_inc (pc := 38) (b := 1) (L' := fun v5 => [some (.ref (G.1 + off 1000)), some (.int x1), some (.int v5), some (.int v2)]) dX12_exchange_38 rfl rfl (by decide) rfl (fun _ => rfl) (fun v5 => ?_)
      refine JO_goto (pc := 41) (tgt := 2) dX12_exchange_41 (by decide) ?_
      exact JO_sub (l_sub_some (l_sub_some (l_sub_some (l_sub_none (l_sub_nil))))) (ih x1 v5 σ4)
set_option maxHeartbeats 4000000 in
set_option maxRecDepth 100000 in
theorem w_X12_exchange (G : JG) (d : Nat) (x1 : Int32) (σ : Mem) : JS G mX12_exchange d [.ref (G.1 + off 1000), .int x1] σ rV (X12_exchange x1 σ) := by
  refine JS_of 2 (by decide +kernel) (Nat.le_of_ble_eq_true rfl) (L := [some (.ref (G.1 + off 1000)), some (.int x1), none, none]) rfl ?_
  unfold X12_exchange
  refine JO_iconst (pc := 0) (a := 0) dX12_exchange_0 (by decide) ?_
  refine JO_nm (fun v1 => ?_)
  refine JO_istore_n (pc := 1) (L' := [some (.ref (G.1 + off 1000)), some (.int x1), some (.int v1), none]) dX12_exchange_1 rfl rfl rfl ?_
  exact JO_sub (l_sub_some (l_sub_some (l_sub_some (l_sub_none (l_sub_nil))))) (w_X12_exchange_2 G d fu x1 v1 σ)
set_option maxHeartbeats 4000000 in
set_option maxRecDepth 100000 in
theorem w_X12_aim_21 (G : JG) (d : Nat) : ∀ (x1 : Int32) (x2 : Int32) (σ : Mem), JO G mX12_aim (d + 2) 21 [some (.ref (G.1 + off 1000)), some (.int x1), some (.int x2), none] [] σ rI (X12_aim_21 x1 x2 σ) := by
  intro x1 x2 σ
  unfold X12_aim_21
  refine JO_iload_n (pc := 21) dX12_aim_21 rfl ?_
  refine JO_iload_n (pc := 22) dX12_aim_22 rfl ?_
  refine JO_icmp_ne (pc := 23) (tgt := 29) dX12_aim_23 (by decide) ?_ ?_
  · refine JO_aload_n (pc := 29) dX12_aim_29 rfl ?_
    refine JO_callVv (pc := 30) [] lk_X12_494 rfl (ci := 12) rfl shX12 (w_X12_act G (d + 1)  σ) rfl rfl (Nat.le_of_ble_eq_true rfl) dX12_aim_30 (fun σ3 => ?_)
    refine JO_aload_n (pc := 33) dX12_aim_33 rfl ?_
    refine JO_getR (pc := 34) fl_X12_99 rfl fkX12_now dX12_aim_34 ?_
    refine JO_bipush (pc := 37) (a := 6) dX12_aim_37 (by decide) ?_
    refine JO_iload_n (pc := 39) dX12_aim_39 rfl ?_
    refine JO_iadd (pc := 40) dX12_aim_40 ?_
    refine JO_iald (pc := 41) akX12_now dX12_aim_41 ?_
    refine JO_nm (fun v4 => ?_)
    refine JO_istore_n (pc := 42) (L' := [some (.ref (G.1 + off 1000)), some (.int x1), some (.int x2), some (.int v4)]) dX12_aim_42 rfl rfl rfl ?_
    refine JO_aload_n (pc := 43) dX12_aim_43 rfl ?_
    refine JO_getR (pc := 44) fl_X12_99 rfl fkX12_now dX12_aim_44 ?_
    refine JO_bipush (pc := 47) (a := 6) dX12_aim_47 (by decide) ?_
    refine JO_iload_n (pc := 49) dX12_aim_49 rfl ?_
    refine JO_iadd (pc := 50) dX12_aim_50 ?_
    refine JO_iload_n (pc := 51) dX12_aim_51 rfl ?_
    refine JO_iast (pc := 52) akX12_now dX12_aim_52 (fun σ5 => ?_)
    refine JO_iload_n (pc := 53) dX12_aim_53 rfl ?_
    exact JO_reti (pc := 54) rfl dX12_aim_54
  · refine JO_bipush (pc := 26) (a := (-2)) dX12_aim_26 (by decide) ?_
    exact JO_reti (pc := 28) rfl dX12_aim_28
set_option maxHeartbeats 4000000 in
set_option maxRecDepth 100000 in
theorem w_X12_aim (G : JG) (d : Nat) (x1 : Int32) (x2 : Int32) (σ : Mem) : JS G mX12_aim (d + 2) [.ref (G.1 + off 1000), .int x1, .int x2] σ rI (X12_aim x1 x2 σ) := by
  refine JS_of 1 (by decide +kernel) (Nat.le_of_ble_eq_true rfl) (L := [some (.ref (G.1 + off 1000)), some (.int x1), some (.int x2), none]) rfl ?_
  unfold X12_aim
  refine JO_aload_n (pc := 0) dX12_aim_0 rfl ?_
  refine JO_iload_n (pc := 1) dX12_aim_1 rfl ?_
  refine JO_callVi (pc := 2) [.int x1] lk_X12_432 rfl (ci := 12) rfl shX12 (w_X12_isPerson G d x1 σ) rfl rfl (Nat.le_of_ble_eq_true rfl) dX12_aim_2 (fun r1 => ?_)
  refine JO_if_eq (pc := 5) (tgt := 26) dX12_aim_5 (by decide) ?_ ?_
  · refine JO_bipush (pc := 26) (a := (-2)) dX12_aim_26 (by decide) ?_
    exact JO_reti (pc := 28) rfl dX12_aim_28
  · refine JO_iload_n (pc := 8) dX12_aim_8 rfl ?_
    refine JO_iconst (pc := 9) (a := (-1)) dX12_aim_9 (by decide) ?_
    refine JO_icmp_eq (pc := 10) (tgt := 21) dX12_aim_10 (by decide) ?_ ?_
    · exact JO_sub (l_sub_some (l_sub_some (l_sub_some (l_sub_none (l_sub_nil))))) (w_X12_aim_21 G d x1 x2 r1.2)
    · refine JO_aload_n (pc := 13) dX12_aim_13 rfl ?_
      refine JO_iload_n (pc := 14) dX12_aim_14 rfl ?_
      refine JO_callVi (pc := 15) [.int x2] lk_X12_432 rfl (ci := 12) rfl shX12 (w_X12_isPerson G d x2 r1.2) rfl rfl (Nat.le_of_ble_eq_true rfl) dX12_aim_15 (fun r2 => ?_)
      refine JO_if_eq (pc := 18) (tgt := 26) dX12_aim_18 (by decide) ?_ ?_
      · refine JO_bipush (pc := 26) (a := (-2)) dX12_aim_26 (by decide) ?_
        exact JO_reti (pc := 28) rfl dX12_aim_28
      · exact JO_sub (l_sub_some (l_sub_some (l_sub_some (l_sub_none (l_sub_nil))))) (w_X12_aim_21 G d x1 x2 r2.2)
set_option maxHeartbeats 4000000 in
set_option maxRecDepth 100000 in
theorem w_X12_stand (G : JG) (d : Nat) (x1 : Int32) (x2 : Int32) (σ : Mem) : JS G mX12_stand (d + 2) [.ref (G.1 + off 1000), .int x1, .int x2] σ rI (X12_stand x1 x2 σ) := by
  refine JS_of 1 (by decide +kernel) (Nat.le_of_ble_eq_true rfl) (L := [some (.ref (G.1 + off 1000)), some (.int x1), some (.int x2), none]) rfl ?_
  unfold X12_stand
  refine JO_aload_n (pc := 0) dX12_stand_0 rfl ?_
  refine JO_iload_n (pc := 1) dX12_stand_1 rfl ?_
  refine JO_callVi (pc := 2) [.int x1] lk_X12_432 rfl (ci := 12) rfl shX12 (w_X12_isPerson G d x1 σ) rfl rfl (Nat.le_of_ble_eq_true rfl) dX12_stand_2 (fun r1 => ?_)
  refine JO_if_eq (pc := 5) (tgt := 16) dX12_stand_5 (by decide) ?_ ?_
  · refine JO_iconst (pc := 16) (a := (-1)) dX12_stand_16 (by decide) ?_
    exact JO_reti (pc := 17) rfl dX12_stand_17
  · refine JO_aload_n (pc := 8) dX12_stand_8 rfl ?_
    refine JO_iload_n (pc := 9) dX12_stand_9 rfl ?_
    refine JO_callVi (pc := 10) [.int x2] lk_X12_432 rfl (ci := 12) rfl shX12 (w_X12_isPerson G d x2 r1.2) rfl rfl (Nat.le_of_ble_eq_true rfl) dX12_stand_10 (fun r2 => ?_)
    refine JO_if_ne (pc := 13) (tgt := 18) dX12_stand_13 (by decide) ?_ ?_
    · refine JO_aload_n (pc := 18) dX12_stand_18 rfl ?_
      refine JO_callVv (pc := 19) [] lk_X12_494 rfl (ci := 12) rfl shX12 (w_X12_act G (d + 1)  r2.2) rfl rfl (Nat.le_of_ble_eq_true rfl) dX12_stand_19 (fun σ3 => ?_)
      refine JO_aload_n (pc := 22) dX12_stand_22 rfl ?_
      refine JO_getR (pc := 23) fl_X12_99 rfl fkX12_now dX12_stand_23 ?_
      refine JO_bipush (pc := 26) (a := 12) dX12_stand_26 (by decide) ?_
      refine JO_iload_n (pc := 28) dX12_stand_28 rfl ?_
      refine JO_iadd (pc := 29) dX12_stand_29 ?_
      refine JO_iald (pc := 30) akX12_now dX12_stand_30 ?_
      refine JO_nm (fun v4 => ?_)
      refine JO_istore_n (pc := 31) (L' := [some (.ref (G.1 + off 1000)), some (.int x1), some (.int x2), some (.int v4)]) dX12_stand_31 rfl rfl rfl ?_
      refine JO_aload_n (pc := 32) dX12_stand_32 rfl ?_
      refine JO_getR (pc := 33) fl_X12_99 rfl fkX12_now dX12_stand_33 ?_
      refine JO_bipush (pc := 36) (a := 12) dX12_stand_36 (by decide) ?_
      refine JO_iload_n (pc := 38) dX12_stand_38 rfl ?_
      refine JO_iadd (pc := 39) dX12_stand_39 ?_
      refine JO_iload_n (pc := 40) dX12_stand_40 rfl ?_
      refine JO_iast (pc := 41) akX12_now dX12_stand_41 (fun σ5 => ?_)
      refine JO_iload_n (pc := 42) dX12_stand_42 rfl ?_
      exact JO_reti (pc := 43) rfl dX12_stand_43
    · refine JO_iconst (pc := 16) (a := (-1)) dX12_stand_16 (by decide) ?_
      exact JO_reti (pc := 17) rfl dX12_stand_17
set_option maxHeartbeats 4000000 in
set_option maxRecDepth 100000 in
theorem w_X12_hours (G : JG) (d : Nat) (x1 : Int32) (σ : Mem) : JS G mX12_hours (d + 7) [.ref (G.1 + off 1000), .int x1] σ rI (X12_hours x1 σ) := by
  refine JS_of 0 (by decide +kernel) (Nat.le_of_ble_eq_true rfl) (L := [some (.ref (G.1 + off 1000)), some (.int x1)]) rfl ?_
  unfold X12_hours
  refine JO_iload_n (pc := 0) dX12_hours_0 rfl ?_
  refine JO_iconst (pc := 1) (a := 0) dX12_hours_1 (by decide) ?_
  refine JO_bipush (pc := 2) (a := 60) dX12_hours_2 (by decide) ?_
  refine JO_callSi (pc := 4) [.int x1, .int 0, .int 60] lk_X12_428 rfl (w_X12_isIn G (d + 6) x1 0 60 σ) rfl rfl (Nat.le_of_ble_eq_true rfl) dX12_hours_4 (fun r1 => ?_)
  refine JO_if_eq (pc := 7) (tgt := 25) dX12_hours_7 (by decide) ?_ ?_
  · refine JO_iconst (pc := 25) (a := (-1)) dX12_hours_25 (by decide) ?_
    exact JO_reti (pc := 26) rfl dX12_hours_26
  · refine JO_aload_n (pc := 10) dX12_hours_10 rfl ?_
    refine JO_getR (pc := 11) fl_X12_99 rfl fkX12_now dX12_hours_11 ?_
    refine JO_bipush (pc := 14) (a := 62) dX12_hours_14 (by decide) ?_
    refine JO_ialdc (pc := 16) (k := 62) akX12_now (by decide) (by decide) dX12_hours_16 ?_
    refine JO_iload_n (pc := 17) dX12_hours_17 rfl ?_
    refine JO_iadd (pc := 18) dX12_hours_18 ?_
    refine JO_sipush (pc := 19) (a := 2000) dX12_hours_19 (by decide) ?_
    refine JO_icmp_le (pc := 22) (tgt := 27) dX12_hours_22 (by decide) ?_ ?_
    · refine JO_aload_n (pc := 27) dX12_hours_27 rfl ?_
      refine JO_callVv (pc := 28) [] lk_X12_494 rfl (ci := 12) rfl shX12 (w_X12_act G (d + 6)  r1.2) rfl rfl (Nat.le_of_ble_eq_true rfl) dX12_hours_28 (fun σ2 => ?_)
      refine JO_aload_n (pc := 31) dX12_hours_31 rfl ?_
      refine JO_callVv (pc := 32) [] lk_X12_487 rfl (ci := 12) rfl shX12 (w_X12_load G (d + 6)  σ2) rfl rfl (Nat.le_of_ble_eq_true rfl) dX12_hours_32 (fun σ3 => ?_)
      refine JO_aload_n (pc := 35) dX12_hours_35 rfl ?_
      refine JO_iload_n (pc := 36) dX12_hours_36 rfl ?_
      refine JO_callVv (pc := 37) [.int x1] lk_X12_497 rfl (ci := 12) rfl shX12 (w_X12_goHours G d x1 σ3) rfl rfl (Nat.le_of_ble_eq_true rfl) dX12_hours_37 (fun σ4 => ?_)
      refine JO_aload_n (pc := 40) dX12_hours_40 rfl ?_
      refine JO_callVv (pc := 41) [] lk_X12_500 rfl (ci := 12) rfl shX12 (w_X12_keep G (d + 6)  σ4) rfl rfl (Nat.le_of_ble_eq_true rfl) dX12_hours_41 (fun σ5 => ?_)
      refine JO_aload_n (pc := 44) dX12_hours_44 rfl ?_
      refine JO_getR (pc := 45) fl_X12_99 rfl fkX12_now dX12_hours_45 ?_
      refine JO_bipush (pc := 48) (a := 62) dX12_hours_48 (by decide) ?_
      refine JO_dup2 (pc := 50) dX12_hours_50 rfl rfl ?_
      refine JO_ialdc (pc := 51) (k := 62) akX12_now (by decide) (by decide) dX12_hours_51 ?_
      refine JO_iload_n (pc := 52) dX12_hours_52 rfl ?_
      refine JO_iadd (pc := 53) dX12_hours_53 ?_
      refine JO_iastc (pc := 54) (k := 62) akX12_now (by decide) (by decide) dX12_hours_54 (fun σ6 => ?_)
      refine JO_aload_n (pc := 55) dX12_hours_55 rfl ?_
      refine JO_getR (pc := 56) fl_X12_99 rfl fkX12_now dX12_hours_56 ?_
      refine JO_bipush (pc := 59) (a := 62) dX12_hours_59 (by decide) ?_
      refine JO_ialdc (pc := 61) (k := 62) akX12_now (by decide) (by decide) dX12_hours_61 ?_
      exact JO_reti (pc := 62) rfl dX12_hours_62
    · refine JO_iconst (pc := 25) (a := (-1)) dX12_hours_25 (by decide) ?_
      exact JO_reti (pc := 26) rfl dX12_hours_26
set_option maxHeartbeats 4000000 in
set_option maxRecDepth 100000 in
theorem w_X12_offset_64 (G : JG) (d : Nat) : ∀ (x3 : Int32) (x4 : Int32) (s0 : Int32) (σ : Mem), JO G mX12_offset (d + 3) 64 [some (.ref (G.1 + off 1000)), none, none, some (.int x3), some (.int x4), none] [.int s0] σ rI (X12_offset_64 x3 x4 s0 σ) := by
  intro x3 x4 s0 σ
  unfold X12_offset_64
  refine JO_istore (pc := 64) (L' := [some (.ref (G.1 + off 1000)), none, none, some (.int x3), some (.int x4), some (.int s0)]) dX12_offset_64 rfl rfl rfl ?_
  refine JO_iload (pc := 66) dX12_offset_66 rfl ?_
  refine JO_if_ne (pc := 68) (tgt := 73) dX12_offset_68 (by decide) ?_ ?_
  · refine JO_aload_n (pc := 73) dX12_offset_73 rfl ?_
    refine JO_callVv (pc := 74) [] lk_X12_494 rfl (ci := 12) rfl shX12 (w_X12_act G (d + 2)  σ) rfl rfl (Nat.le_of_ble_eq_true rfl) dX12_offset_74 (fun σ4 => ?_)
    refine JO_aload_n (pc := 77) dX12_offset_77 rfl ?_
    refine JO_getR (pc := 78) fl_X12_99 rfl fkX12_now dX12_offset_78 ?_
    refine JO_iload_n (pc := 81) dX12_offset_81 rfl ?_
    refine JO_dup2 (pc := 82) dX12_offset_82 rfl rfl ?_
    refine JO_iald (pc := 83) akX12_now dX12_offset_83 ?_
    refine JO_iload (pc := 84) dX12_offset_84 rfl ?_
    refine JO_isub (pc := 86) dX12_offset_86 ?_
    refine JO_iast (pc := 87) akX12_now dX12_offset_87 (fun σ5 => ?_)
    refine JO_aload_n (pc := 88) dX12_offset_88 rfl ?_
    refine JO_getR (pc := 89) fl_X12_99 rfl fkX12_now dX12_offset_89 ?_
    refine JO_iload (pc := 92) dX12_offset_92 rfl ?_
    refine JO_dup2 (pc := 94) dX12_offset_94 rfl rfl ?_
    refine JO_iald (pc := 95) akX12_now dX12_offset_95 ?_
    refine JO_iload (pc := 96) dX12_offset_96 rfl ?_
    refine JO_isub (pc := 98) dX12_offset_98 ?_
    refine JO_iast (pc := 99) akX12_now dX12_offset_99 (fun σ6 => ?_)
    refine JO_iload (pc := 100) dX12_offset_100 rfl ?_
    exact JO_reti (pc := 102) rfl dX12_offset_102
  · refine JO_iconst (pc := 71) (a := (-1)) dX12_offset_71 (by decide) ?_
    exact JO_reti (pc := 72) rfl dX12_offset_72
set_option maxHeartbeats 4000000 in
set_option maxRecDepth 100000 in
theorem w_X12_offset (G : JG) (d : Nat) (x1 : Int32) (x2 : Int32) (σ : Mem) : JS G mX12_offset (d + 3) [.ref (G.1 + off 1000), .int x1, .int x2] σ rI (X12_offset x1 x2 σ) := by
  refine JS_of 3 (by decide +kernel) (Nat.le_of_ble_eq_true rfl) (L := [some (.ref (G.1 + off 1000)), some (.int x1), some (.int x2), none, none, none]) rfl ?_
  unfold X12_offset
  refine JO_aload_n (pc := 0) dX12_offset_0 rfl ?_
  refine JO_iload_n (pc := 1) dX12_offset_1 rfl ?_
  refine JO_iload_n (pc := 2) dX12_offset_2 rfl ?_
  refine JO_callVi (pc := 3) [.int x1, .int x2] lk_X12_484 rfl (ci := 12) rfl shX12 (w_X12_areTwo G d x1 x2 σ) rfl rfl (Nat.le_of_ble_eq_true rfl) dX12_offset_3 (fun r1 => ?_)
  refine JO_if_ne (pc := 6) (tgt := 11) dX12_offset_6 (by decide) ?_ ?_
  · refine JO_bipush (pc := 11) (a := 24) dX12_offset_11 (by decide) ?_
    refine JO_bipush (pc := 13) (a := 6) dX12_offset_13 (by decide) ?_
    refine JO_iload_n (pc := 15) dX12_offset_15 rfl ?_
    refine JO_imul (pc := 16) dX12_offset_16 ?_
    refine JO_iadd (pc := 17) dX12_offset_17 ?_
    refine JO_iload_n (pc := 18) dX12_offset_18 rfl ?_
    refine JO_iadd (pc := 19) dX12_offset_19 ?_
    refine JO_nm (fun v2 => ?_)
    refine JO_istore_n (pc := 20) (L' := [some (.ref (G.1 + off 1000)), some (.int x1), some (.int x2), some (.int v2), none, none]) dX12_offset_20 rfl rfl rfl ?_
    refine JO_bipush (pc := 21) (a := 24) dX12_offset_21 (by decide) ?_
    refine JO_bipush (pc := 23) (a := 6) dX12_offset_23 (by decide) ?_
    refine JO_iload_n (pc := 25) dX12_offset_25 rfl ?_
    refine JO_imul (pc := 26) dX12_offset_26 ?_
    refine JO_iadd (pc := 27) dX12_offset_27 ?_
    refine JO_iload_n (pc := 28) dX12_offset_28 rfl ?_
    refine JO_iadd (pc := 29) dX12_offset_29 ?_
    refine JO_nm (fun v3 => ?_)
    refine JO_istore (pc := 30) (L' := [some (.ref (G.1 + off 1000)), some (.int x1), some (.int x2), some (.int v2), some (.int v3), none]) dX12_offset_30 rfl rfl rfl ?_
    refine JO_aload_n (pc := 32) dX12_offset_32 rfl ?_
    refine JO_getR (pc := 33) fl_X12_99 rfl fkX12_now dX12_offset_33 ?_
    refine JO_iload_n (pc := 36) dX12_offset_36 rfl ?_
    refine JO_iald (pc := 37) akX12_now dX12_offset_37 ?_
    refine JO_aload_n (pc := 38) dX12_offset_38 rfl ?_
    refine JO_getR (pc := 39) fl_X12_99 rfl fkX12_now dX12_offset_39 ?_
    refine JO_iload (pc := 42) dX12_offset_42 rfl ?_
    refine JO_iald (pc := 44) akX12_now dX12_offset_44 ?_
    refine JO_icmp_ge (pc := 45) (tgt := 57) dX12_offset_45 (by decide) ?_ ?_
    · refine JO_aload_n (pc := 57) dX12_offset_57 rfl ?_
      refine JO_getR (pc := 58) fl_X12_99 rfl fkX12_now dX12_offset_58 ?_
      refine JO_iload (pc := 61) dX12_offset_61 rfl ?_
      refine JO_iald (pc := 63) akX12_now dX12_offset_63 ?_
      exact JO_sub (l_sub_some (l_sub_none (l_sub_none (l_sub_some (l_sub_some (l_sub_none (l_sub_nil))))))) (w_X12_offset_64 G d v2 v3 (r1.2.1 1028 v3.toNatClampNeg) r1.2)
    · refine JO_aload_n (pc := 48) dX12_offset_48 rfl ?_
      refine JO_getR (pc := 49) fl_X12_99 rfl fkX12_now dX12_offset_49 ?_
      refine JO_iload_n (pc := 52) dX12_offset_52 rfl ?_
      refine JO_iald (pc := 53) akX12_now dX12_offset_53 ?_
      refine JO_goto (pc := 54) (tgt := 64) dX12_offset_54 (by decide) ?_
      exact JO_sub (l_sub_some (l_sub_none (l_sub_none (l_sub_some (l_sub_some (l_sub_none (l_sub_nil))))))) (w_X12_offset_64 G d v2 v3 (r1.2.1 1028 v2.toNatClampNeg) r1.2)
  · refine JO_iconst (pc := 9) (a := (-1)) dX12_offset_9 (by decide) ?_
    exact JO_reti (pc := 10) rfl dX12_offset_10
set_option maxHeartbeats 4000000 in
set_option maxRecDepth 100000 in
theorem w_X12_isInRow_26 (G : JG) (d : Nat) (k31 : Int32 → Int32 → Int32 → Int32 → Mem → Option (Int32 × Mem)) (hk31 : ∀ (x1 : Int32) (x2 : Int32) (x4 : Int32) (s0 : Int32) (σ : Mem), JO G mX12_isInRow d 31 [some (.ref (G.1 + off 1000)), some (.int x1), some (.int x2), none, some (.int x4)] [.int s0] σ rI (k31 x1 x2 x4 s0 σ)) : ∀ (x1 : Int32) (x2 : Int32) (x4 : Int32) (σ : Mem), JO G mX12_isInRow d 26 [some (.ref (G.1 + off 1000)), some (.int x1), some (.int x2), none, some (.int x4)] [] σ rI (X12_isInRow_26 k31 x1 x2 x4 σ) := by
  intro x1 x2 x4 σ
  unfold X12_isInRow_26
  refine JO_iconst (pc := 26) (a := 1) dX12_isInRow_26 (by decide) ?_
  refine JO_goto (pc := 27) (tgt := 31) dX12_isInRow_27 (by decide) ?_
  exact JO_sub (l_sub_some (l_sub_some (l_sub_some (l_sub_none (l_sub_some (l_sub_nil)))))) (hk31 x1 x2 x4 1 σ)
set_option maxHeartbeats 4000000 in
set_option maxRecDepth 100000 in
theorem w_X12_isInRow_31 (G : JG) (d : Nat) (k5 : Int32 → Int32 → Int32 → Int32 → Mem → Option (Int32 × Mem)) (hk5 : ∀ (x1 : Int32) (x2 : Int32) (x3 : Int32) (x4 : Int32) (σ : Mem), JO G mX12_isInRow d 5 [some (.ref (G.1 + off 1000)), some (.int x1), some (.int x2), some (.int x3), some (.int x4)] [] σ rI (k5 x1 x2 x3 x4 σ)) : ∀ (x1 : Int32) (x2 : Int32) (x4 : Int32) (s0 : Int32) (σ : Mem), JO G mX12_isInRow d 31 [some (.ref (G.1 + off 1000)), some (.int x1), some (.int x2), none, some (.int x4)] [.int s0] σ rI (X12_isInRow_31 k5 x1 x2 x4 s0 σ) := by
  intro x1 x2 x4 s0 σ
  unfold X12_isInRow_31
  refine JO_istore_n (pc := 31) (L' := [some (.ref (G.1 + off 1000)), some (.int x1), some (.int x2), some (.int s0), some (.int x4)]) dX12_isInRow_31 rfl rfl rfl ?_
  refine JO_inc (pc := 32) (b := 1) (L' := fun v3 => [some (.ref (G.1 + off 1000)), some (.int x1), some (.int x2), some (.int s0), some (.int v3)]) dX12_isInRow_32 rfl rfl (by decide) rfl (fun _ => rfl) (fun v3 => ?_)
  refine JO_goto (pc := 35) (tgt := 5) dX12_isInRow_35 (by decide) ?_
  exact JO_sub (l_sub_some (l_sub_some (l_sub_some (l_sub_some (l_sub_some (l_sub_nil)))))) (hk5 x1 x2 s0 v3 σ)
set_option maxHeartbeats 4000000 in
set_option maxRecDepth 100000 in
theorem w_X12_isInRow_5 (G : JG) (d : Nat) : ∀ (n : Nat) (x1 : Int32) (x2 : Int32) (x3 : Int32) (x4 : Int32) (σ : Mem), JO G mX12_isInRow d 5 [some (.ref (G.1 + off 1000)), some (.int x1), some (.int x2), some (.int x3), some (.int x4)] [] σ rI (X12_isInRow_5 n x1 x2 x3 x4 σ) := by
  intro n
  induction n with
  | zero =>
    intro x1 x2 x3 x4 σ
    exact JO_none
  | succ n ih =>
    intro x1 x2 x3 x4 σ
    rw [X12_isInRow_5]
    refine JO_iload (pc := 5) dX12_isInRow_5 rfl ?_
    refine JO_iload_n (pc := 7) dX12_isInRow_7 rfl ?_
    refine JO_icmp_ge (pc := 8) (tgt := 38) dX12_isInRow_8 (by decide) ?_ ?_
    · refine JO_iload_n (pc := 38) dX12_isInRow_38 rfl ?_
      exact JO_retz (pc := 39) rfl dX12_isInRow_39
    · refine JO_iload_n (pc := 11) dX12_isInRow_11 rfl ?_
      refine JO_if_ne (pc := 12) (tgt := 26) dX12_isInRow_12 (by decide) ?_ ?_
      · exact JO_sub (l_sub_some (l_sub_some (l_sub_some (l_sub_none (l_sub_some (l_sub_nil)))))) (w_X12_isInRow_26 G d _ (w_X12_isInRow_31 G d _ (ih)) x1 x2 x4 σ)
      · refine JO_aload_n (pc := 15) dX12_isInRow_15 rfl ?_
        refine JO_getR (pc := 16) fl_X12_145 rfl fkX12_row dX12_isInRow_16 ?_
        refine JO_iload (pc := 19) dX12_isInRow_19 rfl ?_
        refine JO_iald (pc := 21) akX12_row dX12_isInRow_21 ?_
        refine JO_iload_n (pc := 22) dX12_isInRow_22 rfl ?_
        refine JO_icmp_ne (pc := 23) (tgt := 30) dX12_isInRow_23 (by decide) ?_ ?_
        · refine JO_iconst (pc := 30) (a := 0) dX12_isInRow_30 (by decide) ?_
          exact JO_sub (l_sub_some (l_sub_some (l_sub_some (l_sub_none (l_sub_some (l_sub_nil)))))) (w_X12_isInRow_31 G d _ (ih) x1 x2 x4 0 σ)
        · exact JO_sub (l_sub_some (l_sub_some (l_sub_some (l_sub_none (l_sub_some (l_sub_nil)))))) (w_X12_isInRow_26 G d _ (w_X12_isInRow_31 G d _ (ih)) x1 x2 x4 σ)
set_option maxHeartbeats 4000000 in
set_option maxRecDepth 100000 in
theorem w_X12_isInRow (G : JG) (d : Nat) (x1 : Int32) (x2 : Int32) (σ : Mem) : JS G mX12_isInRow d [.ref (G.1 + off 1000), .int x1, .int x2] σ rI (X12_isInRow x1 x2 σ) := by
  refine JS_of 2 (by decide +kernel) (Nat.le_of_ble_eq_true rfl) (L := [some (.ref (G.1 + off 1000)), some (.int x1), some (.int x2), none, none]) rfl ?_
  unfold X12_isInRow
  refine JO_iconst (pc := 0) (a := 0) dX12_isInRow_0 (by decide) ?_
  refine JO_nm (fun v1 => ?_)
  refine JO_istore_n (pc := 1) (L' := [some (.ref (G.1 + off 1000)), some (.int x1), some (.int x2), some (.int v1), none]) dX12_isInRow_1 rfl rfl rfl ?_
  refine JO_iconst (pc := 2) (a := 0) dX12_isInRow_2 (by decide) ?_
  refine JO_nm (fun v2 => ?_)
  refine JO_istore (pc := 3) (L' := [some (.ref (G.1 + off 1000)), some (.int x1), some (.int x2), some (.int v1), some (.int v2)]) dX12_isInRow_3 rfl rfl rfl ?_
  exact JO_sub (l_sub_some (l_sub_some (l_sub_some (l_sub_some (l_sub_some (l_sub_nil)))))) (w_X12_isInRow_5 G d fu x1 x2 v1 v2 σ)
set_option maxHeartbeats 4000000 in
set_option maxRecDepth 100000 in
theorem w_X12_debt (G : JG) (d : Nat) (x1 : Int32) (x2 : Int32) (σ : Mem) : JS G mX12_debt d [.ref (G.1 + off 1000), .int x1, .int x2] σ rI (X12_debt x1 x2 σ) := by
  refine JS_of 0 (by decide +kernel) (Nat.le_of_ble_eq_true rfl) (L := [some (.ref (G.1 + off 1000)), some (.int x1), some (.int x2)]) rfl ?_
  unfold X12_debt
  refine JO_aload_n (pc := 0) dX12_debt_0 rfl ?_
  refine JO_getR (pc := 1) fl_X12_99 rfl fkX12_now dX12_debt_1 ?_
  refine JO_bipush (pc := 4) (a := 24) dX12_debt_4 (by decide) ?_
  refine JO_bipush (pc := 6) (a := 6) dX12_debt_6 (by decide) ?_
  refine JO_iload_n (pc := 8) dX12_debt_8 rfl ?_
  refine JO_imul (pc := 9) dX12_debt_9 ?_
  refine JO_iadd (pc := 10) dX12_debt_10 ?_
  refine JO_iload_n (pc := 11) dX12_debt_11 rfl ?_
  refine JO_iadd (pc := 12) dX12_debt_12 ?_
  refine JO_iald (pc := 13) akX12_now dX12_debt_13 ?_
  exact JO_reti (pc := 14) rfl dX12_debt_14
set_option maxHeartbeats 4000000 in
set_option maxRecDepth 100000 in
theorem w_X12_nextAt_49 (G : JG) (d : Nat) (k4 : Int32 → Int32 → Mem → Option (Int32 × Mem)) (hk4 : ∀ (x1 : Int32) (x3 : Int32) (σ : Mem), JO G mX12_nextAt (d + 1) 4 [some (.ref (G.1 + off 1000)), some (.int x1), none, some (.int x3)] [] σ rI (k4 x1 x3 σ)) : ∀ (x1 : Int32) (x3 : Int32) (σ : Mem), JO G mX12_nextAt (d + 1) 49 [some (.ref (G.1 + off 1000)), some (.int x1), none, some (.int x3)] [] σ rI (X12_nextAt_49 k4 x1 x3 σ) := by
  intro x1 x3 σ
  unfold X12_nextAt_49
  refine JO_inc (pc := 49) (b := 1) (L' := fun v4 => [some (.ref (G.1 + off 1000)), some (.int x1), none, some (.int v4)]) dX12_nextAt_49 rfl rfl (by decide) rfl (fun _ => rfl) (fun v4 => ?_)
  refine JO_goto (pc := 52) (tgt := 4) dX12_nextAt_52 (by decide) ?_
  exact JO_sub (l_sub_some (l_sub_some (l_sub_none (l_sub_some (l_sub_nil))))) (hk4 x1 v4 σ)
set_option maxHeartbeats 4000000 in
set_option maxRecDepth 100000 in
theorem w_X12_nextAt_4 (G : JG) (d : Nat) : ∀ (n : Nat) (x1 : Int32) (x3 : Int32) (σ : Mem), JO G mX12_nextAt (d + 1) 4 [some (.ref (G.1 + off 1000)), some (.int x1), none, some (.int x3)] [] σ rI (X12_nextAt_4 n x1 x3 σ) := by
  intro n
  induction n with
  | zero =>
    intro x1 x3 σ
    exact JO_none
  | succ n ih =>
    intro x1 x3 σ
    rw [X12_nextAt_4]
    refine JO_iload_n (pc := 4) dX12_nextAt_4 rfl ?_
    refine JO_aload_n (pc := 5) dX12_nextAt_5 rfl ?_
    refine JO_getI (pc := 6) fl_X12_401 rfl fkX12_people dX12_nextAt_6 ?_
    refine JO_icmp_ge (pc := 9) (tgt := 55) dX12_nextAt_9 (by decide) ?_ ?_
    · refine JO_iconst (pc := 55) (a := (-1)) dX12_nextAt_55 (by decide) ?_
      exact JO_reti (pc := 56) rfl dX12_nextAt_56
    · refine JO_iload_n (pc := 12) dX12_nextAt_12 rfl ?_
      refine JO_aload_n (pc := 13) dX12_nextAt_13 rfl ?_
      refine JO_getR (pc := 14) fl_X12_145 rfl fkX12_row dX12_nextAt_14 ?_
      refine JO_iconst (pc := 17) (a := 0) dX12_nextAt_17 (by decide) ?_
      refine JO_ialdc (pc := 18) (k := 0) akX12_row (by decide) (by decide) dX12_nextAt_18 ?_
      refine JO_icmp_le (pc := 19) (tgt := 49) dX12_nextAt_19 (by decide) ?_ ?_
      · exact JO_sub (l_sub_some (l_sub_some (l_sub_none (l_sub_some (l_sub_nil))))) (w_X12_nextAt_49 G d _ (ih) x1 x3 σ)
      · refine JO_aload_n (pc := 22) dX12_nextAt_22 rfl ?_
        refine JO_iload_n (pc := 23) dX12_nextAt_23 rfl ?_
        refine JO_iload_n (pc := 24) dX12_nextAt_24 rfl ?_
        refine JO_callVi (pc := 25) [.int x3, .int x1] lk_X12_533 rfl (ci := 12) rfl shX12 (w_X12_isInRow G d x3 x1 σ) rfl rfl (Nat.le_of_ble_eq_true rfl) dX12_nextAt_25 (fun r2 => ?_)
        refine JO_if_ne (pc := 28) (tgt := 49) dX12_nextAt_28 (by decide) ?_ ?_
        · exact JO_sub (l_sub_some (l_sub_some (l_sub_none (l_sub_some (l_sub_nil))))) (w_X12_nextAt_49 G d _ (ih) x1 x3 r2.2)
        · refine JO_aload_n (pc := 31) dX12_nextAt_31 rfl ?_
          refine JO_aload_n (pc := 32) dX12_nextAt_32 rfl ?_
          refine JO_getR (pc := 33) fl_X12_145 rfl fkX12_row dX12_nextAt_33 ?_
          refine JO_iload_n (pc := 36) dX12_nextAt_36 rfl ?_
          refine JO_iconst (pc := 37) (a := 1) dX12_nextAt_37 (by decide) ?_
          refine JO_isub (pc := 38) dX12_nextAt_38 ?_
          refine JO_iald (pc := 39) akX12_row dX12_nextAt_39 ?_
          refine JO_iload_n (pc := 40) dX12_nextAt_40 rfl ?_
          refine JO_callVi (pc := 41) [.int (r2.2.1 1043 (x1 - 1).toNatClampNeg), .int x3] lk_X12_530 rfl (ci := 12) rfl shX12 (w_X12_debt G d (r2.2.1 1043 (x1 - 1).toNatClampNeg) x3 r2.2) rfl rfl (Nat.le_of_ble_eq_true rfl) dX12_nextAt_41 (fun r3 => ?_)
          refine JO_if_le (pc := 44) (tgt := 49) dX12_nextAt_44 (by decide) ?_ ?_
          · exact JO_sub (l_sub_some (l_sub_some (l_sub_none (l_sub_some (l_sub_nil))))) (w_X12_nextAt_49 G d _ (ih) x1 x3 r3.2)
          · refine JO_iload_n (pc := 47) dX12_nextAt_47 rfl ?_
            exact JO_reti (pc := 48) rfl dX12_nextAt_48
set_option maxHeartbeats 4000000 in
set_option maxRecDepth 100000 in
theorem w_X12_nextAt (G : JG) (d : Nat) (x1 : Int32) (x2 : Int32) (σ : Mem) : JS G mX12_nextAt (d + 1) [.ref (G.1 + off 1000), .int x1, .int x2] σ rI (X12_nextAt x1 x2 σ) := by
  refine JS_of 1 (by decide +kernel) (Nat.le_of_ble_eq_true rfl) (L := [some (.ref (G.1 + off 1000)), some (.int x1), some (.int x2), none]) rfl ?_
  unfold X12_nextAt
  refine JO_iload_n (pc := 0) dX12_nextAt_0 rfl ?_
  refine JO_iconst (pc := 1) (a := 1) dX12_nextAt_1 (by decide) ?_
  refine JO_iadd (pc := 2) dX12_nextAt_2 ?_
  refine JO_nm (fun v1 => ?_)
  refine JO_istore_n (pc := 3) (L' := [some (.ref (G.1 + off 1000)), some (.int x1), some (.int x2), some (.int v1)]) dX12_nextAt_3 rfl rfl rfl ?_
  exact JO_sub (l_sub_some (l_sub_some (l_sub_none (l_sub_some (l_sub_nil))))) (w_X12_nextAt_4 G d fu x1 v1 σ)
set_option maxHeartbeats 4000000 in
set_option maxRecDepth 100000 in
theorem w_X12_note_82 (G : JG) (d : Nat) (k43 : Int32 → Int32 → Int32 → Mem → Option Mem) (hk43 : ∀ (x1 : Int32) (x2 : Int32) (x3 : Int32) (σ : Mem), JO G mX12_note (d + 1) 43 [some (.ref (G.1 + off 1000)), some (.int x1), some (.int x2), some (.int x3), none] [] σ rV (k43 x1 x2 x3 σ)) : ∀ (x1 : Int32) (x3 : Int32) (s0 : Int32) (σ : Mem), JO G mX12_note (d + 1) 82 [some (.ref (G.1 + off 1000)), some (.int x1), none, some (.int x3), none] [.int s0] σ rV (X12_note_82 k43 x1 x3 s0 σ) := by
  intro x1 x3 s0 σ
  unfold X12_note_82
  refine JO_istore_n (pc := 82) (L' := [some (.ref (G.1 + off 1000)), some (.int x1), some (.int s0), some (.int x3), none]) dX12_note_82 rfl rfl rfl ?_
  refine JO_inc (pc := 83) (b := 1) (L' := fun v12 => [some (.ref (G.1 + off 1000)), some (.int x1), some (.int s0), some (.int v12), none]) dX12_note_83 rfl rfl (by decide) rfl (fun _ => rfl) (fun v12 => ?_)
  refine JO_goto (pc := 86) (tgt := 43) dX12_note_86 (by decide) ?_
  exact JO_sub (l_sub_some (l_sub_some (l_sub_some (l_sub_some (l_sub_none (l_sub_nil)))))) (hk43 x1 s0 v12 σ)
set_option maxHeartbeats 4000000 in
set_option maxRecDepth 100000 in
theorem w_X12_note_114 (G : JG) (d : Nat) : ∀ (n : Nat) (x1 : Int32) (x3 : Int32) (σ : Mem), JO G mX12_note (d + 1) 114 [some (.ref (G.1 + off 1000)), some (.int x1), none, some (.int x3), none] [] σ rV (X12_note_114 n x1 x3 σ) := by
  intro n
  induction n with
  | zero =>
    intro x1 x3 σ
    exact JO_none
  | succ n ih =>
    intro x1 x3 σ
    rw [X12_note_114]
    refine JO_iload_n (pc := 114) dX12_note_114 rfl ?_
    refine JO_iload_n (pc := 115) dX12_note_115 rfl ?_
    refine JO_icmp_ge (pc := 116) (tgt := 137) dX12_note_116 (by decide) ?_ ?_
    · exact JO_retv (pc := 137) rfl dX12_note_137
    · refine JO_aload_n (pc := 119) dX12_note_119 rfl ?_
      refine JO_getR (pc := 120) fl_X12_148 rfl fkX12_best dX12_note_120 ?_
      refine JO_iload_n (pc := 123) dX12_note_123 rfl ?_
      refine JO_aload_n (pc := 124) dX12_note_124 rfl ?_
      refine JO_getR (pc := 125) fl_X12_145 rfl fkX12_row dX12_note_125 ?_
      refine JO_iload_n (pc := 128) dX12_note_128 rfl ?_
      refine JO_iald (pc := 129) akX12_row dX12_note_129 ?_
      refine JO_iast (pc := 130) akX12_best dX12_note_130 (fun σ10 => ?_)
      refine JO_inc (pc := 131) (b := 1) (L' := fun v11 => [some (.ref (G.1 + off 1000)), some (.int x1), none, some (.int v11), none]) dX12_note_131 rfl rfl (by decide) rfl (fun _ => rfl) (fun v11 => ?_)
      refine JO_goto (pc := 134) (tgt := 114) dX12_note_134 (by decide) ?_
      exact JO_sub (l_sub_some (l_sub_some (l_sub_none (l_sub_some (l_sub_none (l_sub_nil)))))) (ih x1 v11 σ10)
set_option maxHeartbeats 4000000 in
set_option maxRecDepth 100000 in
theorem w_X12_note_43 (G : JG) (d : Nat) : ∀ (n : Nat) (x1 : Int32) (x2 : Int32) (x3 : Int32) (σ : Mem), JO G mX12_note (d + 1) 43 [some (.ref (G.1 + off 1000)), some (.int x1), some (.int x2), some (.int x3), none] [] σ rV (X12_note_43 n x1 x2 x3 σ) := by
  intro n
  induction n with
  | zero =>
    intro x1 x2 x3 σ
    exact JO_none
  | succ n ih =>
    intro x1 x2 x3 σ
    rw [X12_note_43]
    refine JO_iload_n (pc := 43) dX12_note_43 rfl ?_
    refine JO_iload_n (pc := 44) dX12_note_44 rfl ?_
    refine JO_icmp_ge (pc := 45) (tgt := 89) dX12_note_45 (by decide) ?_ ?_
    · refine JO_iload_n (pc := 89) dX12_note_89 rfl ?_
      refine JO_iload_n (pc := 90) dX12_note_90 rfl ?_
      refine JO_imul (pc := 91) dX12_note_91 ?_
      refine JO_aload_n (pc := 92) dX12_note_92 rfl ?_
      refine JO_getI (pc := 93) fl_X12_509 rfl fkX12_bestFrees dX12_note_93 ?_
      refine JO_icmp_gt (pc := 96) (tgt := 100) dX12_note_96 (by decide) ?_ ?_
      · refine JO_aload_n (pc := 100) dX12_note_100 rfl ?_
        refine JO_iload_n (pc := 101) dX12_note_101 rfl ?_
        refine JO_iload_n (pc := 102) dX12_note_102 rfl ?_
        refine JO_imul (pc := 103) dX12_note_103 ?_
        refine JO_putI (pc := 104) fl_X12_509 rfl fkX12_bestFrees dX12_note_104 (fun σ5 => ?_)
        refine JO_aload_n (pc := 107) dX12_note_107 rfl ?_
        refine JO_iload_n (pc := 108) dX12_note_108 rfl ?_
        refine JO_putI (pc := 109) fl_X12_512 rfl fkX12_bestSize dX12_note_109 (fun σ6 => ?_)
        refine JO_iconst (pc := 112) (a := 0) dX12_note_112 (by decide) ?_
        refine JO_nm (fun v7 => ?_)
        refine JO_istore_n (pc := 113) (L' := [some (.ref (G.1 + off 1000)), some (.int x1), some (.int x2), some (.int v7), none]) dX12_note_113 rfl rfl rfl ?_
        exact JO_sub (l_sub_some (l_sub_some (l_sub_none (l_sub_some (l_sub_none (l_sub_nil)))))) (w_X12_note_114 G d fu x1 v7 σ6)
      · exact JO_retv (pc := 99) rfl dX12_note_99
    · refine JO_aload_n (pc := 48) dX12_note_48 rfl ?_
      refine JO_aload_n (pc := 49) dX12_note_49 rfl ?_
      refine JO_getR (pc := 50) fl_X12_145 rfl fkX12_row dX12_note_50 ?_
      refine JO_iload_n (pc := 53) dX12_note_53 rfl ?_
      refine JO_iald (pc := 54) akX12_row dX12_note_54 ?_
      refine JO_aload_n (pc := 55) dX12_note_55 rfl ?_
      refine JO_getR (pc := 56) fl_X12_145 rfl fkX12_row dX12_note_56 ?_
      refine JO_iload_n (pc := 59) dX12_note_59 rfl ?_
      refine JO_iconst (pc := 60) (a := 1) dX12_note_60 (by decide) ?_
      refine JO_iadd (pc := 61) dX12_note_61 ?_
      refine JO_iload_n (pc := 62) dX12_note_62 rfl ?_
      refine JO_irem (pc := 63) dX12_note_63 ?_
      refine JO_iald (pc := 64) akX12_row dX12_note_64 ?_
      refine JO_callVi (pc := 65) [.int (σ.1 1043 x3.toNatClampNeg), .int (σ.1 1043 ((x3 + 1) - (x3 + 1) / x1 * x1).toNatClampNeg)] lk_X12_530 rfl (ci := 12) rfl shX12 (w_X12_debt G d (σ.1 1043 x3.toNatClampNeg) (σ.1 1043 ((x3 + 1) - (x3 + 1) / x1 * x1).toNatClampNeg) σ) rfl rfl (Nat.le_of_ble_eq_true rfl) dX12_note_65 (fun r8 => ?_)
      refine JO_nm (fun v9 => ?_)
      refine JO_istore (pc := 68) (L' := [some (.ref (G.1 + off 1000)), some (.int x1), some (.int x2), some (.int x3), some (.int v9)]) dX12_note_68 rfl rfl rfl ?_
      refine JO_iload (pc := 70) dX12_note_70 rfl ?_
      refine JO_iload_n (pc := 72) dX12_note_72 rfl ?_
      refine JO_icmp_ge (pc := 73) (tgt := 81) dX12_note_73 (by decide) ?_ ?_
      · refine JO_iload_n (pc := 81) dX12_note_81 rfl ?_
        exact JO_sub (l_sub_some (l_sub_some (l_sub_none (l_sub_some (l_sub_none (l_sub_nil)))))) (w_X12_note_82 G d _ (ih) x1 x3 x2 r8.2)
      · refine JO_iload (pc := 76) dX12_note_76 rfl ?_
        refine JO_goto (pc := 78) (tgt := 82) dX12_note_78 (by decide) ?_
        exact JO_sub (l_sub_some (l_sub_some (l_sub_none (l_sub_some (l_sub_none (l_sub_nil)))))) (w_X12_note_82 G d _ (ih) x1 x3 v9 r8.2)
set_option maxHeartbeats 4000000 in
set_option maxRecDepth 100000 in
theorem w_X12_note (G : JG) (d : Nat) (x1 : Int32) (σ : Mem) : JS G mX12_note (d + 1) [.ref (G.1 + off 1000), .int x1] σ rV (X12_note x1 σ) := by
  refine JS_of 3 (by decide +kernel) (Nat.le_of_ble_eq_true rfl) (L := [some (.ref (G.1 + off 1000)), some (.int x1), none, none, none]) rfl ?_
  unfold X12_note
  refine JO_iload_n (pc := 0) dX12_note_0 rfl ?_
  refine JO_iconst (pc := 1) (a := 2) dX12_note_1 (by decide) ?_
  refine JO_icmp_lt (pc := 2) (tgt := 26) dX12_note_2 (by decide) ?_ ?_
  · exact JO_retv (pc := 26) rfl dX12_note_26
  · refine JO_aload_n (pc := 5) dX12_note_5 rfl ?_
    refine JO_aload_n (pc := 6) dX12_note_6 rfl ?_
    refine JO_getR (pc := 7) fl_X12_145 rfl fkX12_row dX12_note_7 ?_
    refine JO_iload_n (pc := 10) dX12_note_10 rfl ?_
    refine JO_iconst (pc := 11) (a := 1) dX12_note_11 (by decide) ?_
    refine JO_isub (pc := 12) dX12_note_12 ?_
    refine JO_iald (pc := 13) akX12_row dX12_note_13 ?_
    refine JO_aload_n (pc := 14) dX12_note_14 rfl ?_
    refine JO_getR (pc := 15) fl_X12_145 rfl fkX12_row dX12_note_15 ?_
    refine JO_iconst (pc := 18) (a := 0) dX12_note_18 (by decide) ?_
    refine JO_ialdc (pc := 19) (k := 0) akX12_row (by decide) (by decide) dX12_note_19 ?_
    refine JO_callVi (pc := 20) [.int (σ.1 1043 (x1 - 1).toNatClampNeg), .int (σ.1 1043 0)] lk_X12_530 rfl (ci := 12) rfl shX12 (w_X12_debt G d (σ.1 1043 (x1 - 1).toNatClampNeg) (σ.1 1043 0) σ) rfl rfl (Nat.le_of_ble_eq_true rfl) dX12_note_20 (fun r1 => ?_)
    refine JO_if_ne (pc := 23) (tgt := 27) dX12_note_23 (by decide) ?_ ?_
    · refine JO_aload_n (pc := 27) dX12_note_27 rfl ?_
      refine JO_dup (pc := 28) dX12_note_28 rfl ?_
      refine JO_getI (pc := 29) fl_X12_506 rfl fkX12_ringMany dX12_note_29 ?_
      refine JO_iconst (pc := 32) (a := 1) dX12_note_32 (by decide) ?_
      refine JO_iadd (pc := 33) dX12_note_33 ?_
      refine JO_putI (pc := 34) fl_X12_506 rfl fkX12_ringMany dX12_note_34 (fun σ2 => ?_)
      refine JO_sipush (pc := 37) (a := 9999) dX12_note_37 (by decide) ?_
      refine JO_nm (fun v3 => ?_)
      refine JO_istore_n (pc := 40) (L' := [some (.ref (G.1 + off 1000)), some (.int x1), some (.int v3), none, none]) dX12_note_40 rfl rfl rfl ?_
      refine JO_iconst (pc := 41) (a := 0) dX12_note_41 (by decide) ?_
      refine JO_nm (fun v4 => ?_)
      refine JO_istore_n (pc := 42) (L' := [some (.ref (G.1 + off 1000)), some (.int x1), some (.int v3), some (.int v4), none]) dX12_note_42 rfl rfl rfl ?_
      exact JO_sub (l_sub_some (l_sub_some (l_sub_some (l_sub_some (l_sub_none (l_sub_nil)))))) (w_X12_note_43 G d fu x1 v3 v4 σ2)
    · exact JO_retv (pc := 26) rfl dX12_note_26
set_option maxHeartbeats 4000000 in
set_option maxRecDepth 100000 in
theorem w_X12_layRings_84 (G : JG) (d : Nat) (k36 : Int32 → Int32 → Int32 → Mem → Option Mem) (hk36 : ∀ (x1 : Int32) (x2 : Int32) (x3 : Int32) (σ : Mem), JO G mX12_layRings (d + 2) 36 [some (.ref (G.1 + off 1000)), some (.int x1), some (.int x2), some (.int x3), none] [] σ rV (k36 x1 x2 x3 σ)) : ∀ (x1 : Int32) (x2 : Int32) (x3 : Int32) (σ : Mem), JO G mX12_layRings (d + 2) 84 [some (.ref (G.1 + off 1000)), some (.int x1), some (.int x2), some (.int x3), none] [] σ rV (X12_layRings_84 k36 x1 x2 x3 σ) := by
  intro x1 x2 x3 σ
  unfold X12_layRings_84
  refine JO_goto (pc := 84) (tgt := 36) dX12_layRings_84 (by decide) ?_
  exact JO_sub (l_sub_some (l_sub_some (l_sub_some (l_sub_some (l_sub_none (l_sub_nil)))))) (hk36 x1 x2 x3 σ)
set_option maxHeartbeats 4000000 in
set_option maxRecDepth 100000 in
theorem w_X12_layRings_36 (G : JG) (d : Nat) (k17 : Int32 → Mem → Option Mem) (hk17 : ∀ (x1 : Int32) (σ : Mem), JO G mX12_layRings (d + 2) 17 [some (.ref (G.1 + off 1000)), some (.int x1), none, none, none] [] σ rV (k17 x1 σ)) : ∀ (n : Nat) (x1 : Int32) (x2 : Int32) (x3 : Int32) (σ : Mem), JO G mX12_layRings (d + 2) 36 [some (.ref (G.1 + off 1000)), some (.int x1), some (.int x2), some (.int x3), none] [] σ rV (X12_layRings_36 k17 n x1 x2 x3 σ) := by
  intro n
  induction n with
  | zero =>
    intro x1 x2 x3 σ
    exact JO_none
  | succ n ih =>
    intro x1 x2 x3 σ
    rw [X12_layRings_36]
    refine JO_iload_n (pc := 36) dX12_layRings_36 rfl ?_
    refine JO_if_le (pc := 37) (tgt := 87) dX12_layRings_37 (by decide) ?_ ?_
    · refine JO_inc (pc := 87) (b := 1) (L' := fun v8 => [some (.ref (G.1 + off 1000)), some (.int v8), some (.int x2), some (.int x3), none]) dX12_layRings_87 rfl rfl (by decide) rfl (fun _ => rfl) (fun v8 => ?_)
      refine JO_goto (pc := 90) (tgt := 17) dX12_layRings_90 (by decide) ?_
      exact JO_sub (l_sub_some (l_sub_some (l_sub_none (l_sub_none (l_sub_none (l_sub_nil)))))) (hk17 v8 σ)
    · refine JO_aload_n (pc := 40) dX12_layRings_40 rfl ?_
      refine JO_iload_n (pc := 41) dX12_layRings_41 rfl ?_
      refine JO_iload_n (pc := 42) dX12_layRings_42 rfl ?_
      refine JO_callVi (pc := 43) [.int x2, .int x3] lk_X12_536 rfl (ci := 12) rfl shX12 (w_X12_nextAt G d x2 x3 σ) rfl rfl (Nat.le_of_ble_eq_true rfl) dX12_layRings_43 (fun r9 => ?_)
      refine JO_nm (fun v10 => ?_)
      refine JO_istore (pc := 46) (L' := [some (.ref (G.1 + off 1000)), some (.int x1), some (.int x2), some (.int x3), some (.int v10)]) dX12_layRings_46 rfl rfl rfl ?_
      refine JO_iload (pc := 48) dX12_layRings_48 rfl ?_
      refine JO_if_lt (pc := 50) (tgt := 74) dX12_layRings_50 (by decide) ?_ ?_
      · refine JO_inc (pc := 74) (b := (-1)) (L' := fun v11 => [some (.ref (G.1 + off 1000)), some (.int x1), some (.int v11), some (.int x3), some (.int v10)]) dX12_layRings_74 rfl rfl (by decide) rfl (fun _ => rfl) (fun v11 => ?_)
        refine JO_aload_n (pc := 77) dX12_layRings_77 rfl ?_
        refine JO_getR (pc := 78) fl_X12_145 rfl fkX12_row dX12_layRings_78 ?_
        refine JO_iload_n (pc := 81) dX12_layRings_81 rfl ?_
        refine JO_iald (pc := 82) akX12_row dX12_layRings_82 ?_
        refine JO_nm (fun v12 => ?_)
        refine JO_istore_n (pc := 83) (L' := [some (.ref (G.1 + off 1000)), some (.int x1), some (.int v11), some (.int v12), some (.int v10)]) dX12_layRings_83 rfl rfl rfl ?_
        exact JO_sub (l_sub_some (l_sub_some (l_sub_some (l_sub_some (l_sub_none (l_sub_nil)))))) (w_X12_layRings_84 G d _ (ih) x1 v11 v12 r9.2)
      · refine JO_aload_n (pc := 53) dX12_layRings_53 rfl ?_
        refine JO_getR (pc := 54) fl_X12_145 rfl fkX12_row dX12_layRings_54 ?_
        refine JO_iload_n (pc := 57) dX12_layRings_57 rfl ?_
        refine JO_iload (pc := 58) dX12_layRings_58 rfl ?_
        refine JO_iast (pc := 60) akX12_row dX12_layRings_60 (fun σ13 => ?_)
        refine JO_inc (pc := 61) (b := 1) (L' := fun v14 => [some (.ref (G.1 + off 1000)), some (.int x1), some (.int v14), some (.int x3), some (.int v10)]) dX12_layRings_61 rfl rfl (by decide) rfl (fun _ => rfl) (fun v14 => ?_)
        refine JO_aload_n (pc := 64) dX12_layRings_64 rfl ?_
        refine JO_iload_n (pc := 65) dX12_layRings_65 rfl ?_
        refine JO_callVv (pc := 66) [.int v14] lk_X12_539 rfl (ci := 12) rfl shX12 (w_X12_note G d v14 σ13) rfl rfl (Nat.le_of_ble_eq_true rfl) dX12_layRings_66 (fun σ15 => ?_)
        refine JO_iconst (pc := 69) (a := (-1)) dX12_layRings_69 (by decide) ?_
        refine JO_nm (fun v16 => ?_)
        refine JO_istore_n (pc := 70) (L' := [some (.ref (G.1 + off 1000)), some (.int x1), some (.int v14), some (.int v16), some (.int v10)]) dX12_layRings_70 rfl rfl rfl ?_
        refine JO_goto (pc := 71) (tgt := 84) dX12_layRings_71 (by decide) ?_
        exact JO_sub (l_sub_some (l_sub_some (l_sub_some (l_sub_some (l_sub_none (l_sub_nil)))))) (w_X12_layRings_84 G d _ (ih) x1 v14 v16 σ15)
set_option maxHeartbeats 4000000 in
set_option maxRecDepth 100000 in
theorem w_X12_layRings_17 (G : JG) (d : Nat) : ∀ (n : Nat) (x1 : Int32) (σ : Mem), JO G mX12_layRings (d + 2) 17 [some (.ref (G.1 + off 1000)), some (.int x1), none, none, none] [] σ rV (X12_layRings_17 n x1 σ) := by
  intro n
  induction n with
  | zero =>
    intro x1 σ
    exact JO_none
  | succ n ih =>
    intro x1 σ
    rw [X12_layRings_17]
    refine JO_iload_n (pc := 17) dX12_layRings_17 rfl ?_
    refine JO_aload_n (pc := 18) dX12_layRings_18 rfl ?_
    refine JO_getI (pc := 19) fl_X12_401 rfl fkX12_people dX12_layRings_19 ?_
    refine JO_icmp_ge (pc := 22) (tgt := 93) dX12_layRings_22 (by decide) ?_ ?_
    · exact JO_retv (pc := 93) rfl dX12_layRings_93
    · refine JO_aload_n (pc := 25) dX12_layRings_25 rfl ?_
      refine JO_getR (pc := 26) fl_X12_145 rfl fkX12_row dX12_layRings_26 ?_
      refine JO_iconst (pc := 29) (a := 0) dX12_layRings_29 (by decide) ?_
      refine JO_iload_n (pc := 30) dX12_layRings_30 rfl ?_
      refine JO_iastc (pc := 31) (k := 0) akX12_row (by decide) (by decide) dX12_layRings_31 (fun σ5 => ?_)
      refine JO_iconst (pc := 32) (a := 1) dX12_layRings_32 (by decide) ?_
      refine JO_nm (fun v6 => ?_)
      refine JO_istore_n (pc := 33) (L' := [some (.ref (G.1 + off 1000)), some (.int x1), some (.int v6), none, none]) dX12_layRings_33 rfl rfl rfl ?_
      refine JO_iconst (pc := 34) (a := (-1)) dX12_layRings_34 (by decide) ?_
      refine JO_nm (fun v7 => ?_)
      refine JO_istore_n (pc := 35) (L' := [some (.ref (G.1 + off 1000)), some (.int x1), some (.int v6), some (.int v7), none]) dX12_layRings_35 rfl rfl rfl ?_
      exact JO_sub (l_sub_some (l_sub_some (l_sub_some (l_sub_some (l_sub_none (l_sub_nil)))))) (w_X12_layRings_36 G d _ (ih) fu x1 v6 v7 σ5)
set_option maxHeartbeats 4000000 in
set_option maxRecDepth 100000 in
theorem w_X12_layRings (G : JG) (d : Nat) (σ : Mem) : JS G mX12_layRings (d + 2) [.ref (G.1 + off 1000)] σ rV (X12_layRings σ) := by
  refine JS_of 4 (by decide +kernel) (Nat.le_of_ble_eq_true rfl) (L := [some (.ref (G.1 + off 1000)), none, none, none, none]) rfl ?_
  unfold X12_layRings
  refine JO_aload_n (pc := 0) dX12_layRings_0 rfl ?_
  refine JO_iconst (pc := 1) (a := 0) dX12_layRings_1 (by decide) ?_
  refine JO_putI (pc := 2) fl_X12_506 rfl fkX12_ringMany dX12_layRings_2 (fun σ1 => ?_)
  refine JO_aload_n (pc := 5) dX12_layRings_5 rfl ?_
  refine JO_iconst (pc := 6) (a := 0) dX12_layRings_6 (by decide) ?_
  refine JO_putI (pc := 7) fl_X12_509 rfl fkX12_bestFrees dX12_layRings_7 (fun σ2 => ?_)
  refine JO_aload_n (pc := 10) dX12_layRings_10 rfl ?_
  refine JO_iconst (pc := 11) (a := 0) dX12_layRings_11 (by decide) ?_
  refine JO_putI (pc := 12) fl_X12_512 rfl fkX12_bestSize dX12_layRings_12 (fun σ3 => ?_)
  refine JO_iconst (pc := 15) (a := 0) dX12_layRings_15 (by decide) ?_
  refine JO_nm (fun v4 => ?_)
  refine JO_istore_n (pc := 16) (L' := [some (.ref (G.1 + off 1000)), some (.int v4), none, none, none]) dX12_layRings_16 rfl rfl rfl ?_
  exact JO_sub (l_sub_some (l_sub_some (l_sub_none (l_sub_none (l_sub_none (l_sub_nil)))))) (w_X12_layRings_17 G d fu v4 σ3)
set_option maxHeartbeats 4000000 in
set_option maxRecDepth 100000 in
theorem w_X12_clear_29 (G : JG) (d : Nat) : ∀ (n : Nat) (x1 : Int32) (x2 : Int32) (σ : Mem), JO G mX12_clear (d + 3) 29 [some (.ref (G.1 + off 1000)), some (.int x1), some (.int x2)] [] σ rI (X12_clear_29 n x1 x2 σ) := by
  intro n
  induction n with
  | zero =>
    intro x1 x2 σ
    exact JO_none
  | succ n ih =>
    intro x1 x2 σ
    rw [X12_clear_29]
    refine JO_iload_n (pc := 29) dX12_clear_29 rfl ?_
    refine JO_aload_n (pc := 30) dX12_clear_30 rfl ?_
    refine JO_getI (pc := 31) fl_X12_512 rfl fkX12_bestSize dX12_clear_31 ?_
    refine JO_icmp_ge (pc := 34) (tgt := 78) dX12_clear_34 (by decide) ?_ ?_
    · refine JO_aload_n (pc := 78) dX12_clear_78 rfl ?_
      refine JO_getI (pc := 79) fl_X12_509 rfl fkX12_bestFrees dX12_clear_79 ?_
      exact JO_reti (pc := 82) rfl dX12_clear_82
    · refine JO_aload_n (pc := 37) dX12_clear_37 rfl ?_
      refine JO_getR (pc := 38) fl_X12_99 rfl fkX12_now dX12_clear_38 ?_
      refine JO_bipush (pc := 41) (a := 24) dX12_clear_41 (by decide) ?_
      refine JO_bipush (pc := 43) (a := 6) dX12_clear_43 (by decide) ?_
      refine JO_aload_n (pc := 45) dX12_clear_45 rfl ?_
      refine JO_getR (pc := 46) fl_X12_148 rfl fkX12_best dX12_clear_46 ?_
      refine JO_iload_n (pc := 49) dX12_clear_49 rfl ?_
      refine JO_iald (pc := 50) akX12_best dX12_clear_50 ?_
      refine JO_imul (pc := 51) dX12_clear_51 ?_
      refine JO_iadd (pc := 52) dX12_clear_52 ?_
      refine JO_aload_n (pc := 53) dX12_clear_53 rfl ?_
      refine JO_getR (pc := 54) fl_X12_148 rfl fkX12_best dX12_clear_54 ?_
      refine JO_iload_n (pc := 57) dX12_clear_57 rfl ?_
      refine JO_iconst (pc := 58) (a := 1) dX12_clear_58 (by decide) ?_
      refine JO_iadd (pc := 59) dX12_clear_59 ?_
      refine JO_aload_n (pc := 60) dX12_clear_60 rfl ?_
      refine JO_getI (pc := 61) fl_X12_512 rfl fkX12_bestSize dX12_clear_61 ?_
      refine JO_irem (pc := 64) dX12_clear_64 ?_
      refine JO_iald (pc := 65) akX12_best dX12_clear_65 ?_
      refine JO_iadd (pc := 66) dX12_clear_66 ?_
      refine JO_nm (fun v5 => ?_)
      refine JO_dup2 (pc := 67) dX12_clear_67 rfl rfl ?_
      refine JO_iald (pc := 68) akX12_now dX12_clear_68 ?_
      refine JO_iload_n (pc := 69) dX12_clear_69 rfl ?_
      refine JO_isub (pc := 70) dX12_clear_70 ?_
      refine JO_iast (pc := 71) akX12_now dX12_clear_71 (fun σ6 => ?_)
      refine JO_inc (pc := 72) (b := 1) (L' := fun v7 => [some (.ref (G.1 + off 1000)), some (.int x1), some (.int v7)]) dX12_clear_72 rfl rfl (by decide) rfl (fun _ => rfl) (fun v7 => ?_)
      refine JO_goto (pc := 75) (tgt := 29) dX12_clear_75 (by decide) ?_
      exact JO_sub (l_sub_some (l_sub_some (l_sub_some (l_sub_nil)))) (ih x1 v7 σ6)
set_option maxHeartbeats 4000000 in
set_option maxRecDepth 100000 in
theorem w_X12_clear (G : JG) (d : Nat) (σ : Mem) : JS G mX12_clear (d + 3) [.ref (G.1 + off 1000)] σ rI (X12_clear σ) := by
  refine JS_of 2 (by decide +kernel) (Nat.le_of_ble_eq_true rfl) (L := [some (.ref (G.1 + off 1000)), none, none]) rfl ?_
  unfold X12_clear
  refine JO_aload_n (pc := 0) dX12_clear_0 rfl ?_
  refine JO_callVv (pc := 1) [] lk_X12_503 rfl (ci := 12) rfl shX12 (w_X12_layRings G d  σ) rfl rfl (Nat.le_of_ble_eq_true rfl) dX12_clear_1 (fun σ1 => ?_)
  refine JO_aload_n (pc := 4) dX12_clear_4 rfl ?_
  refine JO_getI (pc := 5) fl_X12_506 rfl fkX12_ringMany dX12_clear_5 ?_
  refine JO_if_ne (pc := 8) (tgt := 13) dX12_clear_8 (by decide) ?_ ?_
  · refine JO_aload_n (pc := 13) dX12_clear_13 rfl ?_
    refine JO_callVv (pc := 14) [] lk_X12_494 rfl (ci := 12) rfl shX12 (w_X12_act G (d + 2)  σ1) rfl rfl (Nat.le_of_ble_eq_true rfl) dX12_clear_14 (fun σ2 => ?_)
    refine JO_aload_n (pc := 17) dX12_clear_17 rfl ?_
    refine JO_getI (pc := 18) fl_X12_509 rfl fkX12_bestFrees dX12_clear_18 ?_
    refine JO_aload_n (pc := 21) dX12_clear_21 rfl ?_
    refine JO_getI (pc := 22) fl_X12_512 rfl fkX12_bestSize dX12_clear_22 ?_
    refine JO_idiv (pc := 25) dX12_clear_25 ?_
    refine JO_nm (fun v3 => ?_)
    refine JO_istore_n (pc := 26) (L' := [some (.ref (G.1 + off 1000)), some (.int v3), none]) dX12_clear_26 rfl rfl rfl ?_
    refine JO_iconst (pc := 27) (a := 0) dX12_clear_27 (by decide) ?_
    refine JO_nm (fun v4 => ?_)
    refine JO_istore_n (pc := 28) (L' := [some (.ref (G.1 + off 1000)), some (.int v3), some (.int v4)]) dX12_clear_28 rfl rfl rfl ?_
    exact JO_sub (l_sub_some (l_sub_some (l_sub_some (l_sub_nil)))) (w_X12_clear_29 G d fu v3 v4 σ2)
  · refine JO_iconst (pc := 11) (a := (-1)) dX12_clear_11 (by decide) ?_
    exact JO_reti (pc := 12) rfl dX12_clear_12
set_option maxHeartbeats 4000000 in
set_option maxRecDepth 100000 in
theorem w_X12_undo (G : JG) (d : Nat) (σ : Mem) : JS G mX12_undo (d + 1) [.ref (G.1 + off 1000)] σ rI (X12_undo σ) := by
  refine JS_of 0 (by decide +kernel) (Nat.le_of_ble_eq_true rfl) (L := [some (.ref (G.1 + off 1000))]) rfl ?_
  unfold X12_undo
  refine JO_aload_n (pc := 0) dX12_undo_0 rfl ?_
  refine JO_getI (pc := 1) fl_X12_416 rfl fkX12_acts dX12_undo_1 ?_
  refine JO_if_ne (pc := 4) (tgt := 9) dX12_undo_4 (by decide) ?_ ?_
  · refine JO_aload_n (pc := 9) dX12_undo_9 rfl ?_
    refine JO_dup (pc := 10) dX12_undo_10 rfl ?_
    refine JO_getI (pc := 11) fl_X12_416 rfl fkX12_acts dX12_undo_11 ?_
    refine JO_iconst (pc := 14) (a := 1) dX12_undo_14 (by decide) ?_
    refine JO_isub (pc := 15) dX12_undo_15 ?_
    refine JO_putI (pc := 16) fl_X12_416 rfl fkX12_acts dX12_undo_16 (fun σ1 => ?_)
    refine JO_aload_n (pc := 19) dX12_undo_19 rfl ?_
    refine JO_dup (pc := 20) dX12_undo_20 rfl ?_
    refine JO_getI (pc := 21) fl_X12_419 rfl fkX12_undone dX12_undo_21 ?_
    refine JO_iconst (pc := 24) (a := 1) dX12_undo_24 (by decide) ?_
    refine JO_iadd (pc := 25) dX12_undo_25 ?_
    refine JO_putI (pc := 26) fl_X12_419 rfl fkX12_undone dX12_undo_26 (fun σ2 => ?_)
    refine JO_aload_n (pc := 29) dX12_undo_29 rfl ?_
    refine JO_bipush (pc := 30) (a := 64) dX12_undo_30 (by decide) ?_
    refine JO_aload_n (pc := 32) dX12_undo_32 rfl ?_
    refine JO_getI (pc := 33) fl_X12_416 rfl fkX12_acts dX12_undo_33 ?_
    refine JO_imul (pc := 36) dX12_undo_36 ?_
    refine JO_callVv (pc := 37) [.int (64 * (σ2.1 1000 69))] lk_X12_515 rfl (ci := 12) rfl shX12 (w_X12_exchange G d (64 * (σ2.1 1000 69)) σ2) rfl rfl (Nat.le_of_ble_eq_true rfl) dX12_undo_37 (fun σ3 => ?_)
    refine JO_iconst (pc := 40) (a := 1) dX12_undo_40 (by decide) ?_
    exact JO_retzc (pc := 41) (by decide) rfl dX12_undo_41
  · refine JO_iconst (pc := 7) (a := 0) dX12_undo_7 (by decide) ?_
    exact JO_retzc (pc := 8) (by decide) rfl dX12_undo_8
set_option maxHeartbeats 4000000 in
set_option maxRecDepth 100000 in
theorem w_X12_redo (G : JG) (d : Nat) (σ : Mem) : JS G mX12_redo (d + 1) [.ref (G.1 + off 1000)] σ rI (X12_redo σ) := by
  refine JS_of 0 (by decide +kernel) (Nat.le_of_ble_eq_true rfl) (L := [some (.ref (G.1 + off 1000))]) rfl ?_
  unfold X12_redo
  refine JO_aload_n (pc := 0) dX12_redo_0 rfl ?_
  refine JO_getI (pc := 1) fl_X12_419 rfl fkX12_undone dX12_redo_1 ?_
  refine JO_if_ne (pc := 4) (tgt := 9) dX12_redo_4 (by decide) ?_ ?_
  · refine JO_aload_n (pc := 9) dX12_redo_9 rfl ?_
    refine JO_bipush (pc := 10) (a := 64) dX12_redo_10 (by decide) ?_
    refine JO_aload_n (pc := 12) dX12_redo_12 rfl ?_
    refine JO_getI (pc := 13) fl_X12_416 rfl fkX12_acts dX12_redo_13 ?_
    refine JO_imul (pc := 16) dX12_redo_16 ?_
    refine JO_callVv (pc := 17) [.int (64 * (σ.1 1000 69))] lk_X12_515 rfl (ci := 12) rfl shX12 (w_X12_exchange G d (64 * (σ.1 1000 69)) σ) rfl rfl (Nat.le_of_ble_eq_true rfl) dX12_redo_17 (fun σ1 => ?_)
    refine JO_aload_n (pc := 20) dX12_redo_20 rfl ?_
    refine JO_dup (pc := 21) dX12_redo_21 rfl ?_
    refine JO_getI (pc := 22) fl_X12_416 rfl fkX12_acts dX12_redo_22 ?_
    refine JO_iconst (pc := 25) (a := 1) dX12_redo_25 (by decide) ?_
    refine JO_iadd (pc := 26) dX12_redo_26 ?_
    refine JO_putI (pc := 27) fl_X12_416 rfl fkX12_acts dX12_redo_27 (fun σ2 => ?_)
    refine JO_aload_n (pc := 30) dX12_redo_30 rfl ?_
    refine JO_dup (pc := 31) dX12_redo_31 rfl ?_
    refine JO_getI (pc := 32) fl_X12_419 rfl fkX12_undone dX12_redo_32 ?_
    refine JO_iconst (pc := 35) (a := 1) dX12_redo_35 (by decide) ?_
    refine JO_isub (pc := 36) dX12_redo_36 ?_
    refine JO_putI (pc := 37) fl_X12_419 rfl fkX12_undone dX12_redo_37 (fun σ3 => ?_)
    refine JO_iconst (pc := 40) (a := 1) dX12_redo_40 (by decide) ?_
    exact JO_retzc (pc := 41) (by decide) rfl dX12_redo_41
  · refine JO_iconst (pc := 7) (a := 0) dX12_redo_7 (by decide) ?_
    exact JO_retzc (pc := 8) (by decide) rfl dX12_redo_8
set_option maxHeartbeats 4000000 in
set_option maxRecDepth 100000 in
theorem w_X12_will (G : JG) (d : Nat) (x1 : Int32) (x2 : Int32) (x3 : Int32) (σ : Mem) : JS G mX12_will (d + 7) [.ref (G.1 + off 1000), .int x1, .int x2, .int x3] σ rI (X12_will x1 x2 x3 σ) := by
  refine JS_of 0 (by decide +kernel) (Nat.le_of_ble_eq_true rfl) (L := [some (.ref (G.1 + off 1000)), some (.int x1), some (.int x2), some (.int x3)]) rfl ?_
  unfold X12_will
  refine JO_aload_n (pc := 0) dX12_will_0 rfl ?_
  refine JO_iload_n (pc := 1) dX12_will_1 rfl ?_
  refine JO_iload_n (pc := 2) dX12_will_2 rfl ?_
  refine JO_callVi (pc := 3) [.int x1, .int x2] lk_X12_484 rfl (ci := 12) rfl shX12 (w_X12_areTwo G (d + 4) x1 x2 σ) rfl rfl (Nat.le_of_ble_eq_true rfl) dX12_will_3 (fun r1 => ?_)
  refine JO_if_eq (pc := 6) (tgt := 20) dX12_will_6 (by decide) ?_ ?_
  · refine JO_iconst (pc := 20) (a := (-1)) dX12_will_20 (by decide) ?_
    exact JO_reti (pc := 21) rfl dX12_will_21
  · refine JO_iload_n (pc := 9) dX12_will_9 rfl ?_
    refine JO_iconst (pc := 10) (a := 0) dX12_will_10 (by decide) ?_
    refine JO_sipush (pc := 11) (a := 200) dX12_will_11 (by decide) ?_
    refine JO_callSi (pc := 14) [.int x3, .int 0, .int 200] lk_X12_428 rfl (w_X12_isIn G (d + 6) x3 0 200 r1.2) rfl rfl (Nat.le_of_ble_eq_true rfl) dX12_will_14 (fun r2 => ?_)
    refine JO_if_ne (pc := 17) (tgt := 22) dX12_will_17 (by decide) ?_ ?_
    · refine JO_aload_n (pc := 22) dX12_will_22 rfl ?_
      refine JO_callVv (pc := 23) [] lk_X12_487 rfl (ci := 12) rfl shX12 (w_X12_load G (d + 6)  r2.2) rfl rfl (Nat.le_of_ble_eq_true rfl) dX12_will_23 (fun σ3 => ?_)
      refine JO_aload_n (pc := 26) dX12_will_26 rfl ?_
      refine JO_iload_n (pc := 27) dX12_will_27 rfl ?_
      refine JO_callVv (pc := 28) [.int x3] lk_X12_497 rfl (ci := 12) rfl shX12 (w_X12_goHours G d x3 σ3) rfl rfl (Nat.le_of_ble_eq_true rfl) dX12_will_28 (fun σ4 => ?_)
      refine JO_aload_n (pc := 31) dX12_will_31 rfl ?_
      refine JO_getR (pc := 32) fl_X12_114 rfl fkX12_owed dX12_will_32 ?_
      refine JO_bipush (pc := 35) (a := 6) dX12_will_35 (by decide) ?_
      refine JO_iload_n (pc := 37) dX12_will_37 rfl ?_
      refine JO_imul (pc := 38) dX12_will_38 ?_
      refine JO_iload_n (pc := 39) dX12_will_39 rfl ?_
      refine JO_iadd (pc := 40) dX12_will_40 ?_
      refine JO_iald (pc := 41) akX12_owed dX12_will_41 ?_
      exact JO_reti (pc := 42) rfl dX12_will_42
    · refine JO_iconst (pc := 20) (a := (-1)) dX12_will_20 (by decide) ?_
      exact JO_reti (pc := 21) rfl dX12_will_21
set_option maxHeartbeats 4000000 in
set_option maxRecDepth 100000 in
theorem w_X12_paidIn_2 (G : JG) (d : Nat) : ∀ (n : Nat) (x1 : Int32) (x2 : Int32) (x3 : Int32) (σ : Mem), JO G mX12_paidIn (d + 6) 2 [some (.ref (G.1 + off 1000)), some (.int x1), some (.int x2), some (.int x3)] [] σ rI (X12_paidIn_2 n x1 x2 x3 σ) := by
  intro n
  induction n with
  | zero =>
    intro x1 x2 x3 σ
    exact JO_none
  | succ n ih =>
    intro x1 x2 x3 σ
    rw [X12_paidIn_2]
    refine JO_iload_n (pc := 2) dX12_paidIn_2 rfl ?_
    refine JO_sipush (pc := 3) (a := 200) dX12_paidIn_3 (by decide) ?_
    refine JO_icmp_gt (pc := 6) (tgt := 35) dX12_paidIn_6 (by decide) ?_ ?_
    · refine JO_iconst (pc := 35) (a := (-1)) dX12_paidIn_35 (by decide) ?_
      exact JO_reti (pc := 36) rfl dX12_paidIn_36
    · refine JO_aload_n (pc := 9) dX12_paidIn_9 rfl ?_
      refine JO_getR (pc := 10) fl_X12_114 rfl fkX12_owed dX12_paidIn_10 ?_
      refine JO_bipush (pc := 13) (a := 6) dX12_paidIn_13 (by decide) ?_
      refine JO_iload_n (pc := 15) dX12_paidIn_15 rfl ?_
      refine JO_imul (pc := 16) dX12_paidIn_16 ?_
      refine JO_iload_n (pc := 17) dX12_paidIn_17 rfl ?_
      refine JO_iadd (pc := 18) dX12_paidIn_18 ?_
      refine JO_iald (pc := 19) akX12_owed dX12_paidIn_19 ?_
      refine JO_if_ne (pc := 20) (tgt := 25) dX12_paidIn_20 (by decide) ?_ ?_
      · refine JO_aload_n (pc := 25) dX12_paidIn_25 rfl ?_
        refine JO_callVv (pc := 26) [] lk_X12_481 rfl (ci := 12) rfl shX12 (w_X12_goHour G d  σ) rfl rfl (Nat.le_of_ble_eq_true rfl) dX12_paidIn_26 (fun σ2 => ?_)
        refine JO_inc (pc := 29) (b := 1) (L' := fun v3 => [some (.ref (G.1 + off 1000)), some (.int x1), some (.int x2), some (.int v3)]) dX12_paidIn_29 rfl rfl (by decide) rfl (fun _ => rfl) (fun v3 => ?_)
        refine JO_goto (pc := 32) (tgt := 2) dX12_paidIn_32 (by decide) ?_
        exact JO_sub (l_sub_some (l_sub_some (l_sub_some (l_sub_some (l_sub_nil))))) (ih x1 x2 v3 σ2)
      · refine JO_iload_n (pc := 23) dX12_paidIn_23 rfl ?_
        exact JO_reti (pc := 24) rfl dX12_paidIn_24
set_option maxHeartbeats 4000000 in
set_option maxRecDepth 100000 in
theorem w_X12_paidIn (G : JG) (d : Nat) (x1 : Int32) (x2 : Int32) (σ : Mem) : JS G mX12_paidIn (d + 6) [.ref (G.1 + off 1000), .int x1, .int x2] σ rI (X12_paidIn x1 x2 σ) := by
  refine JS_of 1 (by decide +kernel) (Nat.le_of_ble_eq_true rfl) (L := [some (.ref (G.1 + off 1000)), some (.int x1), some (.int x2), none]) rfl ?_
  unfold X12_paidIn
  refine JO_iconst (pc := 0) (a := 0) dX12_paidIn_0 (by decide) ?_
  refine JO_nm (fun v1 => ?_)
  refine JO_istore_n (pc := 1) (L' := [some (.ref (G.1 + off 1000)), some (.int x1), some (.int x2), some (.int v1)]) dX12_paidIn_1 rfl rfl rfl ?_
  exact JO_sub (l_sub_some (l_sub_some (l_sub_some (l_sub_some (l_sub_nil))))) (w_X12_paidIn_2 G d fu x1 x2 v1 σ)
set_option maxHeartbeats 4000000 in
set_option maxRecDepth 100000 in
theorem w_X12_when (G : JG) (d : Nat) (x1 : Int32) (x2 : Int32) (σ : Mem) : JS G mX12_when (d + 7) [.ref (G.1 + off 1000), .int x1, .int x2] σ rI (X12_when x1 x2 σ) := by
  refine JS_of 0 (by decide +kernel) (Nat.le_of_ble_eq_true rfl) (L := [some (.ref (G.1 + off 1000)), some (.int x1), some (.int x2)]) rfl ?_
  unfold X12_when
  refine JO_aload_n (pc := 0) dX12_when_0 rfl ?_
  refine JO_iload_n (pc := 1) dX12_when_1 rfl ?_
  refine JO_iload_n (pc := 2) dX12_when_2 rfl ?_
  refine JO_callVi (pc := 3) [.int x1, .int x2] lk_X12_484 rfl (ci := 12) rfl shX12 (w_X12_areTwo G (d + 4) x1 x2 σ) rfl rfl (Nat.le_of_ble_eq_true rfl) dX12_when_3 (fun r1 => ?_)
  refine JO_if_ne (pc := 6) (tgt := 12) dX12_when_6 (by decide) ?_ ?_
  · refine JO_aload_n (pc := 12) dX12_when_12 rfl ?_
    refine JO_callVv (pc := 13) [] lk_X12_487 rfl (ci := 12) rfl shX12 (w_X12_load G (d + 6)  r1.2) rfl rfl (Nat.le_of_ble_eq_true rfl) dX12_when_13 (fun σ2 => ?_)
    refine JO_aload_n (pc := 16) dX12_when_16 rfl ?_
    refine JO_iload_n (pc := 17) dX12_when_17 rfl ?_
    refine JO_iload_n (pc := 18) dX12_when_18 rfl ?_
    refine JO_callVi (pc := 19) [.int x1, .int x2] lk_X12_518 rfl (ci := 12) rfl shX12 (w_X12_paidIn G d x1 x2 σ2) rfl rfl (Nat.le_of_ble_eq_true rfl) dX12_when_19 (fun r3 => ?_)
    exact JO_reti (pc := 22) rfl dX12_when_22
  · refine JO_bipush (pc := 9) (a := (-2)) dX12_when_9 (by decide) ?_
    exact JO_reti (pc := 11) rfl dX12_when_11
set_option maxHeartbeats 4000000 in
set_option maxRecDepth 100000 in
theorem w_X12_throng_108 (G : JG) (d : Nat) (k44 : Int32 → Int32 → Int32 → Int32 → Int32 → Int32 → Mem → Option (Int32 × Mem)) (hk44 : ∀ (x1 : Int32) (x2 : Int32) (x3 : Int32) (x4 : Int32) (x5 : Int32) (x6 : Int32) (σ : Mem), JO G mX12_throng (d + 6) 44 [some (.ref (G.1 + off 1000)), some (.int x1), some (.int x2), some (.int x3), some (.int x4), some (.int x5), some (.int x6), none, none] [] σ rI (k44 x1 x2 x3 x4 x5 x6 σ)) : ∀ (x1 : Int32) (x2 : Int32) (x3 : Int32) (x4 : Int32) (x5 : Int32) (x6 : Int32) (σ : Mem), JO G mX12_throng (d + 6) 108 [some (.ref (G.1 + off 1000)), some (.int x1), some (.int x2), some (.int x3), some (.int x4), some (.int x5), some (.int x6), none, none] [] σ rI (X12_throng_108 k44 x1 x2 x3 x4 x5 x6 σ) := by
  intro x1 x2 x3 x4 x5 x6 σ
  unfold X12_throng_108
  refine JO_inc (pc := 108) (b := 1) (L' := fun v15 => [some (.ref (G.1 + off 1000)), some (.int x1), some (.int x2), some (.int x3), some (.int x4), some (.int x5), some (.int v15), none, none]) dX12_throng_108 rfl rfl (by decide) rfl (fun _ => rfl) (fun v15 => ?_)
  refine JO_goto (pc := 111) (tgt := 44) dX12_throng_111 (by decide) ?_
  exact JO_sub (l_sub_some (l_sub_some (l_sub_some (l_sub_some (l_sub_some (l_sub_some (l_sub_some (l_sub_none (l_sub_none (l_sub_nil)))))))))) (hk44 x1 x2 x3 x4 x5 v15 σ)
set_option maxHeartbeats 4000000 in
set_option maxRecDepth 100000 in
theorem w_X12_throng_60 (G : JG) (d : Nat) (k44 : Int32 → Int32 → Int32 → Int32 → Int32 → Int32 → Mem → Option (Int32 × Mem)) (hk44 : ∀ (x1 : Int32) (x2 : Int32) (x3 : Int32) (x4 : Int32) (x5 : Int32) (x6 : Int32) (σ : Mem), JO G mX12_throng (d + 6) 44 [some (.ref (G.1 + off 1000)), some (.int x1), some (.int x2), some (.int x3), some (.int x4), some (.int x5), some (.int x6), none, none] [] σ rI (k44 x1 x2 x3 x4 x5 x6 σ)) : ∀ (n : Nat) (x1 : Int32) (x2 : Int32) (x3 : Int32) (x4 : Int32) (x5 : Int32) (x6 : Int32) (x7 : Int32) (x8 : Int32) (σ : Mem), JO G mX12_throng (d + 6) 60 [some (.ref (G.1 + off 1000)), some (.int x1), some (.int x2), some (.int x3), some (.int x4), some (.int x5), some (.int x6), some (.int x7), some (.int x8)] [] σ rI (X12_throng_60 k44 n x1 x2 x3 x4 x5 x6 x7 x8 σ) := by
  intro n
  induction n with
  | zero =>
    intro x1 x2 x3 x4 x5 x6 x7 x8 σ
    exact JO_none
  | succ n ih =>
    intro x1 x2 x3 x4 x5 x6 x7 x8 σ
    rw [X12_throng_60]
    refine JO_iload (pc := 60) dX12_throng_60 rfl ?_
    refine JO_aload_n (pc := 62) dX12_throng_62 rfl ?_
    refine JO_getI (pc := 63) fl_X12_401 rfl fkX12_people dX12_throng_63 ?_
    refine JO_icmp_ge (pc := 66) (tgt := 90) dX12_throng_66 (by decide) ?_ ?_
    · refine JO_iload (pc := 90) dX12_throng_90 rfl ?_
      refine JO_iload (pc := 92) dX12_throng_92 rfl ?_
      refine JO_icmp_gt (pc := 94) (tgt := 100) dX12_throng_94 (by decide) ?_ ?_
      · refine JO_iload (pc := 100) dX12_throng_100 rfl ?_
        refine JO_istore (pc := 102) (L' := [some (.ref (G.1 + off 1000)), some (.int x1), some (.int x2), some (.int x3), some (.int x7), some (.int x5), some (.int x6), some (.int x7), some (.int x8)]) dX12_throng_102 rfl rfl rfl ?_
        refine JO_iload (pc := 104) dX12_throng_104 rfl ?_
        refine JO_istore (pc := 106) (L' := [some (.ref (G.1 + off 1000)), some (.int x1), some (.int x2), some (.int x3), some (.int x7), some (.int x6), some (.int x6), some (.int x7), some (.int x8)]) dX12_throng_106 rfl rfl rfl ?_
        exact JO_sub (l_sub_some (l_sub_some (l_sub_some (l_sub_some (l_sub_some (l_sub_some (l_sub_some (l_sub_none (l_sub_none (l_sub_nil)))))))))) (w_X12_throng_108 G d _ (hk44) x1 x2 x3 x7 x6 x6 σ)
      · refine JO_goto (pc := 97) (tgt := 108) dX12_throng_97 (by decide) ?_
        exact JO_sub (l_sub_some (l_sub_some (l_sub_some (l_sub_some (l_sub_some (l_sub_some (l_sub_some (l_sub_none (l_sub_none (l_sub_nil)))))))))) (w_X12_throng_108 G d _ (hk44) x1 x2 x3 x4 x5 x6 σ)
    · refine JO_iload (pc := 69) dX12_throng_69 rfl ?_
      refine JO_aload_n (pc := 71) dX12_throng_71 rfl ?_
      refine JO_iload (pc := 72) dX12_throng_72 rfl ?_
      refine JO_iload_n (pc := 74) dX12_throng_74 rfl ?_
      refine JO_callVi (pc := 75) [.int x8, .int x1] lk_X12_459 rfl (ci := 12) rfl shX12 (w_X12_atDoor G (d + 5) x8 x1 σ) rfl rfl (Nat.le_of_ble_eq_true rfl) dX12_throng_75 (fun r11 => ?_)
      refine JO_callSi (pc := 78) [.int r11.1] lk_X12_343 rfl (w_X12_truth G (d + 5) r11.1 r11.2) rfl rfl (Nat.le_of_ble_eq_true rfl) dX12_throng_78 (fun r12 => ?_)
      refine JO_iadd (pc := 81) dX12_throng_81 ?_
      refine JO_nm (fun v13 => ?_)
      refine JO_istore (pc := 82) (L' := [some (.ref (G.1 + off 1000)), some (.int x1), some (.int x2), some (.int x3), some (.int x4), some (.int x5), some (.int x6), some (.int v13), some (.int x8)]) dX12_throng_82 rfl rfl rfl ?_
      refine JO_inc (pc := 84) (b := 1) (L' := fun v14 => [some (.ref (G.1 + off 1000)), some (.int x1), some (.int x2), some (.int x3), some (.int x4), some (.int x5), some (.int x6), some (.int v13), some (.int v14)]) dX12_throng_84 rfl rfl (by decide) rfl (fun _ => rfl) (fun v14 => ?_)
      refine JO_goto (pc := 87) (tgt := 60) dX12_throng_87 (by decide) ?_
      exact JO_sub (l_sub_some (l_sub_some (l_sub_some (l_sub_some (l_sub_some (l_sub_some (l_sub_some (l_sub_some (l_sub_some (l_sub_nil)))))))))) (ih x1 x2 x3 x4 x5 x6 v13 v14 r12.2)
set_option maxHeartbeats 4000000 in
set_option maxRecDepth 100000 in
theorem w_X12_throng_44 (G : JG) (d : Nat) : ∀ (n : Nat) (x1 : Int32) (x2 : Int32) (x3 : Int32) (x4 : Int32) (x5 : Int32) (x6 : Int32) (σ : Mem), JO G mX12_throng (d + 6) 44 [some (.ref (G.1 + off 1000)), some (.int x1), some (.int x2), some (.int x3), some (.int x4), some (.int x5), some (.int x6), none, none] [] σ rI (X12_throng_44 n x1 x2 x3 x4 x5 x6 σ) := by
  intro n
  induction n with
  | zero =>
    intro x1 x2 x3 x4 x5 x6 σ
    exact JO_none
  | succ n ih =>
    intro x1 x2 x3 x4 x5 x6 σ
    rw [X12_throng_44]
    refine JO_iload (pc := 44) dX12_throng_44 rfl ?_
    refine JO_iload_n (pc := 46) dX12_throng_46 rfl ?_
    refine JO_icmp_gt (pc := 47) (tgt := 114) dX12_throng_47 (by decide) ?_ ?_
    · refine JO_iload_n (pc := 114) dX12_throng_114 rfl ?_
      refine JO_if_ne (pc := 115) (tgt := 123) dX12_throng_115 (by decide) ?_ ?_
      · refine JO_iload (pc := 123) dX12_throng_123 rfl ?_
        exact JO_reti (pc := 125) rfl dX12_throng_125
      · refine JO_iload (pc := 118) dX12_throng_118 rfl ?_
        refine JO_goto (pc := 120) (tgt := 125) dX12_throng_120 (by decide) ?_
        exact JO_reti (pc := 125) rfl dX12_throng_125
    · refine JO_aload_n (pc := 50) dX12_throng_50 rfl ?_
      refine JO_callVv (pc := 51) [] lk_X12_481 rfl (ci := 12) rfl shX12 (w_X12_goHour G d  σ) rfl rfl (Nat.le_of_ble_eq_true rfl) dX12_throng_51 (fun σ8 => ?_)
      refine JO_iconst (pc := 54) (a := 0) dX12_throng_54 (by decide) ?_
      refine JO_nm (fun v9 => ?_)
      refine JO_istore (pc := 55) (L' := [some (.ref (G.1 + off 1000)), some (.int x1), some (.int x2), some (.int x3), some (.int x4), some (.int x5), some (.int x6), some (.int v9), none]) dX12_throng_55 rfl rfl rfl ?_
      refine JO_iconst (pc := 57) (a := 0) dX12_throng_57 (by decide) ?_
      refine JO_nm (fun v10 => ?_)
      refine JO_istore (pc := 58) (L' := [some (.ref (G.1 + off 1000)), some (.int x1), some (.int x2), some (.int x3), some (.int x4), some (.int x5), some (.int x6), some (.int v9), some (.int v10)]) dX12_throng_58 rfl rfl rfl ?_
      exact JO_sub (l_sub_some (l_sub_some (l_sub_some (l_sub_some (l_sub_some (l_sub_some (l_sub_some (l_sub_some (l_sub_some (l_sub_nil)))))))))) (w_X12_throng_60 G d _ (ih) fu x1 x2 x3 x4 x5 x6 v9 v10 σ8)
set_option maxHeartbeats 4000000 in
set_option maxRecDepth 100000 in
theorem w_X12_throng (G : JG) (d : Nat) (x1 : Int32) (x2 : Int32) (x3 : Int32) (σ : Mem) : JS G mX12_throng (d + 6) [.ref (G.1 + off 1000), .int x1, .int x2, .int x3] σ rI (X12_throng x1 x2 x3 σ) := by
  refine JS_of 5 (by decide +kernel) (Nat.le_of_ble_eq_true rfl) (L := [some (.ref (G.1 + off 1000)), some (.int x1), some (.int x2), some (.int x3), none, none, none, none, none]) rfl ?_
  unfold X12_throng
  refine JO_aload_n (pc := 0) dX12_throng_0 rfl ?_
  refine JO_iload_n (pc := 1) dX12_throng_1 rfl ?_
  refine JO_callVi (pc := 2) [.int x1] lk_X12_432 rfl (ci := 12) rfl shX12 (w_X12_isPerson G (d + 4) x1 σ) rfl rfl (Nat.le_of_ble_eq_true rfl) dX12_throng_2 (fun r1 => ?_)
  refine JO_if_eq (pc := 5) (tgt := 28) dX12_throng_5 (by decide) ?_ ?_
  · refine JO_bipush (pc := 28) (a := (-2)) dX12_throng_28 (by decide) ?_
    exact JO_reti (pc := 30) rfl dX12_throng_30
  · refine JO_iload_n (pc := 8) dX12_throng_8 rfl ?_
    refine JO_iconst (pc := 9) (a := 1) dX12_throng_9 (by decide) ?_
    refine JO_sipush (pc := 10) (a := 200) dX12_throng_10 (by decide) ?_
    refine JO_callSi (pc := 13) [.int x2, .int 1, .int 200] lk_X12_428 rfl (w_X12_isIn G (d + 5) x2 1 200 r1.2) rfl rfl (Nat.le_of_ble_eq_true rfl) dX12_throng_13 (fun r2 => ?_)
    refine JO_if_eq (pc := 16) (tgt := 28) dX12_throng_16 (by decide) ?_ ?_
    · refine JO_bipush (pc := 28) (a := (-2)) dX12_throng_28 (by decide) ?_
      exact JO_reti (pc := 30) rfl dX12_throng_30
    · refine JO_iload_n (pc := 19) dX12_throng_19 rfl ?_
      refine JO_iconst (pc := 20) (a := 0) dX12_throng_20 (by decide) ?_
      refine JO_iconst (pc := 21) (a := 1) dX12_throng_21 (by decide) ?_
      refine JO_callSi (pc := 22) [.int x3, .int 0, .int 1] lk_X12_428 rfl (w_X12_isIn G (d + 5) x3 0 1 r2.2) rfl rfl (Nat.le_of_ble_eq_true rfl) dX12_throng_22 (fun r3 => ?_)
      refine JO_if_ne (pc := 25) (tgt := 31) dX12_throng_25 (by decide) ?_ ?_
      · refine JO_aload_n (pc := 31) dX12_throng_31 rfl ?_
        refine JO_callVv (pc := 32) [] lk_X12_487 rfl (ci := 12) rfl shX12 (w_X12_load G (d + 5)  r3.2) rfl rfl (Nat.le_of_ble_eq_true rfl) dX12_throng_32 (fun σ4 => ?_)
        refine JO_iconst (pc := 35) (a := 0) dX12_throng_35 (by decide) ?_
        refine JO_nm (fun v5 => ?_)
        refine JO_istore (pc := 36) (L' := [some (.ref (G.1 + off 1000)), some (.int x1), some (.int x2), some (.int x3), some (.int v5), none, none, none, none]) dX12_throng_36 rfl rfl rfl ?_
        refine JO_iconst (pc := 38) (a := (-1)) dX12_throng_38 (by decide) ?_
        refine JO_nm (fun v6 => ?_)
        refine JO_istore (pc := 39) (L' := [some (.ref (G.1 + off 1000)), some (.int x1), some (.int x2), some (.int x3), some (.int v5), some (.int v6), none, none, none]) dX12_throng_39 rfl rfl rfl ?_
        refine JO_iconst (pc := 41) (a := 1) dX12_throng_41 (by decide) ?_
        refine JO_nm (fun v7 => ?_)
        refine JO_istore (pc := 42) (L' := [some (.ref (G.1 + off 1000)), some (.int x1), some (.int x2), some (.int x3), some (.int v5), some (.int v6), some (.int v7), none, none]) dX12_throng_42 rfl rfl rfl ?_
        exact JO_sub (l_sub_some (l_sub_some (l_sub_some (l_sub_some (l_sub_some (l_sub_some (l_sub_some (l_sub_none (l_sub_none (l_sub_nil)))))))))) (w_X12_throng_44 G d fu x1 x2 x3 v5 v6 v7 σ4)
      · refine JO_bipush (pc := 28) (a := (-2)) dX12_throng_28 (by decide) ?_
        exact JO_reti (pc := 30) rfl dX12_throng_30
set_option maxHeartbeats 4000000 in
set_option maxRecDepth 100000 in
theorem w_X12_meeting_62 (G : JG) (d : Nat) (k30 : Int32 → Int32 → Int32 → Int32 → Mem → Option (Int32 × Mem)) (hk30 : ∀ (x1 : Int32) (x2 : Int32) (x3 : Int32) (x4 : Int32) (σ : Mem), JO G mX12_meeting (d + 6) 30 [some (.ref (G.1 + off 1000)), some (.int x1), some (.int x2), some (.int x3), some (.int x4)] [] σ rI (k30 x1 x2 x3 x4 σ)) : ∀ (x1 : Int32) (x2 : Int32) (x3 : Int32) (x4 : Int32) (σ : Mem), JO G mX12_meeting (d + 6) 62 [some (.ref (G.1 + off 1000)), some (.int x1), some (.int x2), some (.int x3), some (.int x4)] [] σ rI (X12_meeting_62 k30 x1 x2 x3 x4 σ) := by
  intro x1 x2 x3 x4 σ
  unfold X12_meeting_62
  refine JO_inc (pc := 62) (b := 1) (L' := fun v6 => [some (.ref (G.1 + off 1000)), some (.int x1), some (.int x2), some (.int x3), some (.int v6)]) dX12_meeting_62 rfl rfl (by decide) rfl (fun _ => rfl) (fun v6 => ?_)
  refine JO_goto (pc := 65) (tgt := 30) dX12_meeting_65 (by decide) ?_
  exact JO_sub (l_sub_some (l_sub_some (l_sub_some (l_sub_some (l_sub_some (l_sub_nil)))))) (hk30 x1 x2 x3 v6 σ)
set_option maxHeartbeats 4000000 in
set_option maxRecDepth 100000 in
theorem w_X12_meeting_30 (G : JG) (d : Nat) : ∀ (n : Nat) (x1 : Int32) (x2 : Int32) (x3 : Int32) (x4 : Int32) (σ : Mem), JO G mX12_meeting (d + 6) 30 [some (.ref (G.1 + off 1000)), some (.int x1), some (.int x2), some (.int x3), some (.int x4)] [] σ rI (X12_meeting_30 n x1 x2 x3 x4 σ) := by
  intro n
  induction n with
  | zero =>
    intro x1 x2 x3 x4 σ
    exact JO_none
  | succ n ih =>
    intro x1 x2 x3 x4 σ
    rw [X12_meeting_30]
    refine JO_iload (pc := 30) dX12_meeting_30 rfl ?_
    refine JO_iload_n (pc := 32) dX12_meeting_32 rfl ?_
    refine JO_icmp_gt (pc := 33) (tgt := 68) dX12_meeting_33 (by decide) ?_ ?_
    · refine JO_iconst (pc := 68) (a := (-1)) dX12_meeting_68 (by decide) ?_
      exact JO_reti (pc := 69) rfl dX12_meeting_69
    · refine JO_aload_n (pc := 36) dX12_meeting_36 rfl ?_
      refine JO_callVv (pc := 37) [] lk_X12_481 rfl (ci := 12) rfl shX12 (w_X12_goHour G d  σ) rfl rfl (Nat.le_of_ble_eq_true rfl) dX12_meeting_37 (fun σ5 => ?_)
      refine JO_aload_n (pc := 40) dX12_meeting_40 rfl ?_
      refine JO_getR (pc := 41) fl_X12_120 rfl fkX12_meets dX12_meeting_41 ?_
      refine JO_iload_n (pc := 44) dX12_meeting_44 rfl ?_
      refine JO_zald (pc := 45) akX12_meets dX12_meeting_45 ?_
      refine JO_if_eq (pc := 46) (tgt := 62) dX12_meeting_46 (by decide) ?_ ?_
      · exact JO_sub (l_sub_some (l_sub_some (l_sub_some (l_sub_some (l_sub_some (l_sub_nil)))))) (w_X12_meeting_62 G d _ (ih) x1 x2 x3 x4 σ5)
      · refine JO_aload_n (pc := 49) dX12_meeting_49 rfl ?_
        refine JO_getR (pc := 50) fl_X12_105 rfl fkX12_aim dX12_meeting_50 ?_
        refine JO_iload_n (pc := 53) dX12_meeting_53 rfl ?_
        refine JO_iald (pc := 54) akX12_aim dX12_meeting_54 ?_
        refine JO_iload_n (pc := 55) dX12_meeting_55 rfl ?_
        refine JO_icmp_ne (pc := 56) (tgt := 62) dX12_meeting_56 (by decide) ?_ ?_
        · exact JO_sub (l_sub_some (l_sub_some (l_sub_some (l_sub_some (l_sub_some (l_sub_nil)))))) (w_X12_meeting_62 G d _ (ih) x1 x2 x3 x4 σ5)
        · refine JO_iload (pc := 59) dX12_meeting_59 rfl ?_
          exact JO_reti (pc := 61) rfl dX12_meeting_61
set_option maxHeartbeats 4000000 in
set_option maxRecDepth 100000 in
theorem w_X12_meeting (G : JG) (d : Nat) (x1 : Int32) (x2 : Int32) (x3 : Int32) (σ : Mem) : JS G mX12_meeting (d + 6) [.ref (G.1 + off 1000), .int x1, .int x2, .int x3] σ rI (X12_meeting x1 x2 x3 σ) := by
  refine JS_of 1 (by decide +kernel) (Nat.le_of_ble_eq_true rfl) (L := [some (.ref (G.1 + off 1000)), some (.int x1), some (.int x2), some (.int x3), none]) rfl ?_
  unfold X12_meeting
  refine JO_aload_n (pc := 0) dX12_meeting_0 rfl ?_
  refine JO_iload_n (pc := 1) dX12_meeting_1 rfl ?_
  refine JO_iload_n (pc := 2) dX12_meeting_2 rfl ?_
  refine JO_callVi (pc := 3) [.int x1, .int x2] lk_X12_484 rfl (ci := 12) rfl shX12 (w_X12_areTwo G (d + 3) x1 x2 σ) rfl rfl (Nat.le_of_ble_eq_true rfl) dX12_meeting_3 (fun r1 => ?_)
  refine JO_if_eq (pc := 6) (tgt := 20) dX12_meeting_6 (by decide) ?_ ?_
  · refine JO_bipush (pc := 20) (a := (-2)) dX12_meeting_20 (by decide) ?_
    exact JO_reti (pc := 22) rfl dX12_meeting_22
  · refine JO_iload_n (pc := 9) dX12_meeting_9 rfl ?_
    refine JO_iconst (pc := 10) (a := 1) dX12_meeting_10 (by decide) ?_
    refine JO_sipush (pc := 11) (a := 200) dX12_meeting_11 (by decide) ?_
    refine JO_callSi (pc := 14) [.int x3, .int 1, .int 200] lk_X12_428 rfl (w_X12_isIn G (d + 5) x3 1 200 r1.2) rfl rfl (Nat.le_of_ble_eq_true rfl) dX12_meeting_14 (fun r2 => ?_)
    refine JO_if_ne (pc := 17) (tgt := 23) dX12_meeting_17 (by decide) ?_ ?_
    · refine JO_aload_n (pc := 23) dX12_meeting_23 rfl ?_
      refine JO_callVv (pc := 24) [] lk_X12_487 rfl (ci := 12) rfl shX12 (w_X12_load G (d + 5)  r2.2) rfl rfl (Nat.le_of_ble_eq_true rfl) dX12_meeting_24 (fun σ3 => ?_)
      refine JO_iconst (pc := 27) (a := 1) dX12_meeting_27 (by decide) ?_
      refine JO_nm (fun v4 => ?_)
      refine JO_istore (pc := 28) (L' := [some (.ref (G.1 + off 1000)), some (.int x1), some (.int x2), some (.int x3), some (.int v4)]) dX12_meeting_28 rfl rfl rfl ?_
      exact JO_sub (l_sub_some (l_sub_some (l_sub_some (l_sub_some (l_sub_some (l_sub_nil)))))) (w_X12_meeting_30 G d fu x1 x2 x3 v4 σ3)
    · refine JO_bipush (pc := 20) (a := (-2)) dX12_meeting_20 (by decide) ?_
      exact JO_reti (pc := 22) rfl dX12_meeting_22
set_option maxHeartbeats 4000000 in
set_option maxRecDepth 100000 in
theorem w_X12_help_101 (G : JG) (d : Nat) (k32 : Int32 → Int32 → Int32 → Int32 → Int32 → Int32 → Mem → Option (Int32 × Mem)) (hk32 : ∀ (x1 : Int32) (x2 : Int32) (x3 : Int32) (x4 : Int32) (x5 : Int32) (x6 : Int32) (σ : Mem), JO G mX12_help (d + 7) 32 [some (.ref (G.1 + off 1000)), some (.int x1), some (.int x2), some (.int x3), some (.int x4), some (.int x5), some (.int x6), none] [] σ rI (k32 x1 x2 x3 x4 x5 x6 σ)) : ∀ (x1 : Int32) (x2 : Int32) (x3 : Int32) (x4 : Int32) (x5 : Int32) (x6 : Int32) (σ : Mem), JO G mX12_help (d + 7) 101 [some (.ref (G.1 + off 1000)), some (.int x1), some (.int x2), some (.int x3), some (.int x4), some (.int x5), some (.int x6), none] [] σ rI (X12_help_101 k32 x1 x2 x3 x4 x5 x6 σ) := by
  intro x1 x2 x3 x4 x5 x6 σ
  unfold X12_help_101
  refine JO_inc (pc := 101) (b := 1) (L' := fun v11 => [some (.ref (G.1 + off 1000)), some (.int x1), some (.int x2), some (.int x3), some (.int x4), some (.int x5), some (.int v11), none]) dX12_help_101 rfl rfl (by decide) rfl (fun _ => rfl) (fun v11 => ?_)
  refine JO_goto (pc := 104) (tgt := 32) dX12_help_104 (by decide) ?_
  exact JO_sub (l_sub_some (l_sub_some (l_sub_some (l_sub_some (l_sub_some (l_sub_some (l_sub_some (l_sub_none (l_sub_nil))))))))) (hk32 x1 x2 x3 x4 x5 v11 σ)
set_option maxHeartbeats 4000000 in
set_option maxRecDepth 100000 in
theorem w_X12_help_32 (G : JG) (d : Nat) : ∀ (n : Nat) (x1 : Int32) (x2 : Int32) (x3 : Int32) (x4 : Int32) (x5 : Int32) (x6 : Int32) (σ : Mem), JO G mX12_help (d + 7) 32 [some (.ref (G.1 + off 1000)), some (.int x1), some (.int x2), some (.int x3), some (.int x4), some (.int x5), some (.int x6), none] [] σ rI (X12_help_32 n x1 x2 x3 x4 x5 x6 σ) := by
  intro n
  induction n with
  | zero =>
    intro x1 x2 x3 x4 x5 x6 σ
    exact JO_none
  | succ n ih =>
    intro x1 x2 x3 x4 x5 x6 σ
    rw [X12_help_32]
    refine JO_iload (pc := 32) dX12_help_32 rfl ?_
    refine JO_aload_n (pc := 34) dX12_help_34 rfl ?_
    refine JO_getI (pc := 35) fl_X12_401 rfl fkX12_people dX12_help_35 ?_
    refine JO_icmp_ge (pc := 38) (tgt := 107) dX12_help_38 (by decide) ?_ ?_
    · refine JO_iload (pc := 107) dX12_help_107 rfl ?_
      refine JO_if_ge (pc := 109) (tgt := 116) dX12_help_109 (by decide) ?_ ?_
      · refine JO_iload_n (pc := 116) dX12_help_116 rfl ?_
        refine JO_if_ne (pc := 117) (tgt := 125) dX12_help_117 (by decide) ?_ ?_
        · refine JO_iload (pc := 125) dX12_help_125 rfl ?_
          exact JO_reti (pc := 127) rfl dX12_help_127
        · refine JO_iload (pc := 120) dX12_help_120 rfl ?_
          refine JO_goto (pc := 122) (tgt := 127) dX12_help_122 (by decide) ?_
          exact JO_reti (pc := 127) rfl dX12_help_127
      · refine JO_iconst (pc := 112) (a := (-1)) dX12_help_112 (by decide) ?_
        refine JO_goto (pc := 113) (tgt := 127) dX12_help_113 (by decide) ?_
        exact JO_reti (pc := 127) rfl dX12_help_127
    · refine JO_iload (pc := 41) dX12_help_41 rfl ?_
      refine JO_iload_n (pc := 43) dX12_help_43 rfl ?_
      refine JO_icmp_ne (pc := 44) (tgt := 50) dX12_help_44 (by decide) ?_ ?_
      · refine JO_aload_n (pc := 50) dX12_help_50 rfl ?_
        refine JO_callVv (pc := 51) [] lk_X12_487 rfl (ci := 12) rfl shX12 (w_X12_load G (d + 6)  σ) rfl rfl (Nat.le_of_ble_eq_true rfl) dX12_help_51 (fun σ6 => ?_)
        refine JO_aload_n (pc := 54) dX12_help_54 rfl ?_
        refine JO_getR (pc := 55) fl_X12_105 rfl fkX12_aim dX12_help_55 ?_
        refine JO_iload (pc := 58) dX12_help_58 rfl ?_
        refine JO_iload_n (pc := 60) dX12_help_60 rfl ?_
        refine JO_iast (pc := 61) akX12_aim dX12_help_61 (fun σ7 => ?_)
        refine JO_aload_n (pc := 62) dX12_help_62 rfl ?_
        refine JO_getR (pc := 63) fl_X12_108 rfl fkX12_whom dX12_help_63 ?_
        refine JO_iload (pc := 66) dX12_help_66 rfl ?_
        refine JO_iload_n (pc := 68) dX12_help_68 rfl ?_
        refine JO_iast (pc := 69) akX12_whom dX12_help_69 (fun σ8 => ?_)
        refine JO_aload_n (pc := 70) dX12_help_70 rfl ?_
        refine JO_iload_n (pc := 71) dX12_help_71 rfl ?_
        refine JO_iload_n (pc := 72) dX12_help_72 rfl ?_
        refine JO_callVi (pc := 73) [.int x1, .int x2] lk_X12_518 rfl (ci := 12) rfl shX12 (w_X12_paidIn G d x1 x2 σ8) rfl rfl (Nat.le_of_ble_eq_true rfl) dX12_help_73 (fun r9 => ?_)
        refine JO_nm (fun v10 => ?_)
        refine JO_istore (pc := 76) (L' := [some (.ref (G.1 + off 1000)), some (.int x1), some (.int x2), some (.int x3), some (.int x4), some (.int x5), some (.int x6), some (.int v10)]) dX12_help_76 rfl rfl rfl ?_
        refine JO_iload (pc := 78) dX12_help_78 rfl ?_
        refine JO_if_lt (pc := 80) (tgt := 101) dX12_help_80 (by decide) ?_ ?_
        · exact JO_sub (l_sub_some (l_sub_some (l_sub_some (l_sub_some (l_sub_some (l_sub_some (l_sub_some (l_sub_none (l_sub_nil))))))))) (w_X12_help_101 G d _ (ih) x1 x2 x3 x4 x5 x6 r9.2)
        · refine JO_iload (pc := 83) dX12_help_83 rfl ?_
          refine JO_iload (pc := 85) dX12_help_85 rfl ?_
          refine JO_icmp_lt (pc := 87) (tgt := 93) dX12_help_87 (by decide) ?_ ?_
          · refine JO_iload (pc := 93) dX12_help_93 rfl ?_
            refine JO_istore (pc := 95) (L' := [some (.ref (G.1 + off 1000)), some (.int x1), some (.int x2), some (.int x3), some (.int v10), some (.int x5), some (.int x6), some (.int v10)]) dX12_help_95 rfl rfl rfl ?_
            refine JO_iload (pc := 97) dX12_help_97 rfl ?_
            refine JO_istore (pc := 99) (L' := [some (.ref (G.1 + off 1000)), some (.int x1), some (.int x2), some (.int x3), some (.int v10), some (.int x6), some (.int x6), some (.int v10)]) dX12_help_99 rfl rfl rfl ?_
            exact JO_sub (l_sub_some (l_sub_some (l_sub_some (l_sub_some (l_sub_some (l_sub_some (l_sub_some (l_sub_none (l_sub_nil))))))))) (w_X12_help_101 G d _ (ih) x1 x2 x3 v10 x6 x6 r9.2)
          · refine JO_goto (pc := 90) (tgt := 101) dX12_help_90 (by decide) ?_
            exact JO_sub (l_sub_some (l_sub_some (l_sub_some (l_sub_some (l_sub_some (l_sub_some (l_sub_some (l_sub_none (l_sub_nil))))))))) (w_X12_help_101 G d _ (ih) x1 x2 x3 x4 x5 x6 r9.2)
      · refine JO_goto (pc := 47) (tgt := 101) dX12_help_47 (by decide) ?_
        exact JO_sub (l_sub_some (l_sub_some (l_sub_some (l_sub_some (l_sub_some (l_sub_some (l_sub_some (l_sub_none (l_sub_nil))))))))) (w_X12_help_101 G d _ (ih) x1 x2 x3 x4 x5 x6 σ)
set_option maxHeartbeats 4000000 in
set_option maxRecDepth 100000 in
theorem w_X12_help (G : JG) (d : Nat) (x1 : Int32) (x2 : Int32) (x3 : Int32) (σ : Mem) : JS G mX12_help (d + 7) [.ref (G.1 + off 1000), .int x1, .int x2, .int x3] σ rI (X12_help x1 x2 x3 σ) := by
  refine JS_of 4 (by decide +kernel) (Nat.le_of_ble_eq_true rfl) (L := [some (.ref (G.1 + off 1000)), some (.int x1), some (.int x2), some (.int x3), none, none, none, none]) rfl ?_
  unfold X12_help
  refine JO_aload_n (pc := 0) dX12_help_0 rfl ?_
  refine JO_iload_n (pc := 1) dX12_help_1 rfl ?_
  refine JO_iload_n (pc := 2) dX12_help_2 rfl ?_
  refine JO_callVi (pc := 3) [.int x1, .int x2] lk_X12_484 rfl (ci := 12) rfl shX12 (w_X12_areTwo G (d + 4) x1 x2 σ) rfl rfl (Nat.le_of_ble_eq_true rfl) dX12_help_3 (fun r1 => ?_)
  refine JO_if_eq (pc := 6) (tgt := 18) dX12_help_6 (by decide) ?_ ?_
  · refine JO_bipush (pc := 18) (a := (-2)) dX12_help_18 (by decide) ?_
    exact JO_reti (pc := 20) rfl dX12_help_20
  · refine JO_iload_n (pc := 9) dX12_help_9 rfl ?_
    refine JO_iconst (pc := 10) (a := 0) dX12_help_10 (by decide) ?_
    refine JO_iconst (pc := 11) (a := 1) dX12_help_11 (by decide) ?_
    refine JO_callSi (pc := 12) [.int x3, .int 0, .int 1] lk_X12_428 rfl (w_X12_isIn G (d + 6) x3 0 1 r1.2) rfl rfl (Nat.le_of_ble_eq_true rfl) dX12_help_12 (fun r2 => ?_)
    refine JO_if_ne (pc := 15) (tgt := 21) dX12_help_15 (by decide) ?_ ?_
    · refine JO_sipush (pc := 21) (a := 201) dX12_help_21 (by decide) ?_
      refine JO_nm (fun v3 => ?_)
      refine JO_istore (pc := 24) (L' := [some (.ref (G.1 + off 1000)), some (.int x1), some (.int x2), some (.int x3), some (.int v3), none, none, none]) dX12_help_24 rfl rfl rfl ?_
      refine JO_iconst (pc := 26) (a := (-1)) dX12_help_26 (by decide) ?_
      refine JO_nm (fun v4 => ?_)
      refine JO_istore (pc := 27) (L' := [some (.ref (G.1 + off 1000)), some (.int x1), some (.int x2), some (.int x3), some (.int v3), some (.int v4), none, none]) dX12_help_27 rfl rfl rfl ?_
      refine JO_iconst (pc := 29) (a := 0) dX12_help_29 (by decide) ?_
      refine JO_nm (fun v5 => ?_)
      refine JO_istore (pc := 30) (L' := [some (.ref (G.1 + off 1000)), some (.int x1), some (.int x2), some (.int x3), some (.int v3), some (.int v4), some (.int v5), none]) dX12_help_30 rfl rfl rfl ?_
      exact JO_sub (l_sub_some (l_sub_some (l_sub_some (l_sub_some (l_sub_some (l_sub_some (l_sub_some (l_sub_none (l_sub_nil))))))))) (w_X12_help_32 G d fu x1 x2 x3 v3 v4 v5 r2.2)
    · refine JO_bipush (pc := 18) (a := (-2)) dX12_help_18 (by decide) ?_
      exact JO_reti (pc := 20) rfl dX12_help_20
set_option maxHeartbeats 4000000 in
set_option maxRecDepth 100000 in
theorem w_X12_layOrder_108 (G : JG) (d : Nat) (k100 : Int32 → Int32 → Int32 → Int32 → Int32 → Int32 → Mem → Option Mem) (hk100 : ∀ (x2 : Int32) (x3 : Int32) (x4 : Int32) (x5 : Int32) (x6 : Int32) (x7 : Int32) (σ : Mem), JO G mX12_layOrder d 100 [some (.ref (G.1 + off 1000)), none, some (.int x2), some (.int x3), some (.int x4), some (.int x5), some (.int x6), some (.int x7)] [] σ rV (k100 x2 x3 x4 x5 x6 x7 σ)) : ∀ (n : Nat) (x2 : Int32) (x3 : Int32) (x4 : Int32) (x5 : Int32) (x6 : Int32) (x7 : Int32) (σ : Mem), JO G mX12_layOrder d 108 [some (.ref (G.1 + off 1000)), none, some (.int x2), some (.int x3), some (.int x4), some (.int x5), some (.int x6), some (.int x7)] [] σ rV (X12_layOrder_108 k100 n x2 x3 x4 x5 x6 x7 σ) := by
  intro n
  induction n with
  | zero =>
    intro x2 x3 x4 x5 x6 x7 σ
    exact JO_none
  | succ n ih =>
    intro x2 x3 x4 x5 x6 x7 σ
    rw [X12_layOrder_108]
    refine JO_iload_n (pc := 108) dX12_layOrder_108 rfl ?_
    refine JO_iload (pc := 109) dX12_layOrder_109 rfl ?_
    refine JO_ishr (pc := 111) dX12_layOrder_111 ?_
    refine JO_iconst (pc := 112) (a := 1) dX12_layOrder_112 (by decide) ?_
    refine JO_iand (pc := 113) dX12_layOrder_113 ?_
    refine JO_iconst (pc := 114) (a := 1) dX12_layOrder_114 (by decide) ?_
    refine JO_icmp_ne (pc := 115) (tgt := 124) dX12_layOrder_115 (by decide) ?_ ?_
    · refine JO_inc (pc := 124) (b := (-1)) (L' := fun v16 => [some (.ref (G.1 + off 1000)), none, some (.int x2), some (.int x3), some (.int x4), some (.int x5), some (.int v16), some (.int x7)]) dX12_layOrder_124 rfl rfl (by decide) rfl (fun _ => rfl) (fun v16 => ?_)
      refine JO_goto (pc := 127) (tgt := 100) dX12_layOrder_127 (by decide) ?_
      exact JO_sub (l_sub_some (l_sub_none (l_sub_some (l_sub_some (l_sub_some (l_sub_some (l_sub_some (l_sub_some (l_sub_nil))))))))) (hk100 x2 x3 x4 x5 v16 x7 σ)
    · refine JO_inc (pc := 118) (b := 1) (L' := fun v17 => [some (.ref (G.1 + off 1000)), none, some (.int x2), some (.int x3), some (.int x4), some (.int x5), some (.int x6), some (.int v17)]) dX12_layOrder_118 rfl rfl (by decide) rfl (fun _ => rfl) (fun v17 => ?_)
      refine JO_goto (pc := 121) (tgt := 108) dX12_layOrder_121 (by decide) ?_
      exact JO_sub (l_sub_some (l_sub_none (l_sub_some (l_sub_some (l_sub_some (l_sub_some (l_sub_some (l_sub_some (l_sub_nil))))))))) (ih x2 x3 x4 x5 x6 v17 σ)
set_option maxHeartbeats 4000000 in
set_option maxRecDepth 100000 in
theorem w_X12_layOrder_100 (G : JG) (d : Nat) (k35 : Int32 → Int32 → Int32 → Int32 → Mem → Option Mem) (hk35 : ∀ (x2 : Int32) (x3 : Int32) (x4 : Int32) (x5 : Int32) (σ : Mem), JO G mX12_layOrder d 35 [some (.ref (G.1 + off 1000)), none, some (.int x2), some (.int x3), some (.int x4), some (.int x5), none, none] [] σ rV (k35 x2 x3 x4 x5 σ)) : ∀ (n : Nat) (x2 : Int32) (x3 : Int32) (x4 : Int32) (x5 : Int32) (x6 : Int32) (x7 : Int32) (σ : Mem), JO G mX12_layOrder d 100 [some (.ref (G.1 + off 1000)), none, some (.int x2), some (.int x3), some (.int x4), some (.int x5), some (.int x6), some (.int x7)] [] σ rV (X12_layOrder_100 k35 n x2 x3 x4 x5 x6 x7 σ) := by
  intro n
  induction n with
  | zero =>
    intro x2 x3 x4 x5 x6 x7 σ
    exact JO_none
  | succ n ih =>
    intro x2 x3 x4 x5 x6 x7 σ
    rw [X12_layOrder_100]
    refine JO_iload (pc := 100) dX12_layOrder_100 rfl ?_
    refine JO_if_le (pc := 102) (tgt := 130) dX12_layOrder_102 (by decide) ?_ ?_
    · refine JO_iload_n (pc := 130) dX12_layOrder_130 rfl ?_
      refine JO_iconst (pc := 131) (a := 1) dX12_layOrder_131 (by decide) ?_
      refine JO_iload (pc := 132) dX12_layOrder_132 rfl ?_
      refine JO_ishl (pc := 134) dX12_layOrder_134 ?_
      refine JO_ior (pc := 135) dX12_layOrder_135 ?_
      refine JO_nm (fun v12 => ?_)
      refine JO_istore_n (pc := 136) (L' := [some (.ref (G.1 + off 1000)), none, some (.int v12), some (.int x3), some (.int x4), some (.int x5), some (.int x6), some (.int x7)]) dX12_layOrder_136 rfl rfl rfl ?_
      refine JO_aload_n (pc := 137) dX12_layOrder_137 rfl ?_
      refine JO_getR (pc := 138) fl_X12_139 rfl fkX12_order dX12_layOrder_138 ?_
      refine JO_iload (pc := 141) dX12_layOrder_141 rfl ?_
      refine JO_aload_n (pc := 143) dX12_layOrder_143 rfl ?_
      refine JO_getR (pc := 144) fl_X12_136 rfl fkX12_creditors dX12_layOrder_144 ?_
      refine JO_iload (pc := 147) dX12_layOrder_147 rfl ?_
      refine JO_iald (pc := 149) akX12_creditors dX12_layOrder_149 ?_
      refine JO_iast (pc := 150) akX12_order dX12_layOrder_150 (fun σ13 => ?_)
      refine JO_inc (pc := 151) (b := 1) (L' := fun v14 => [some (.ref (G.1 + off 1000)), none, some (.int v12), some (.int x3), some (.int x4), some (.int v14), some (.int x6), some (.int x7)]) dX12_layOrder_151 rfl rfl (by decide) rfl (fun _ => rfl) (fun v14 => ?_)
      refine JO_goto (pc := 154) (tgt := 35) dX12_layOrder_154 (by decide) ?_
      exact JO_sub (l_sub_some (l_sub_none (l_sub_some (l_sub_some (l_sub_some (l_sub_some (l_sub_none (l_sub_none (l_sub_nil))))))))) (hk35 v12 x3 x4 v14 σ13)
    · refine JO_inc (pc := 105) (b := 1) (L' := fun v15 => [some (.ref (G.1 + off 1000)), none, some (.int x2), some (.int x3), some (.int x4), some (.int x5), some (.int x6), some (.int v15)]) dX12_layOrder_105 rfl rfl (by decide) rfl (fun _ => rfl) (fun v15 => ?_)
      exact JO_sub (l_sub_some (l_sub_none (l_sub_some (l_sub_some (l_sub_some (l_sub_some (l_sub_some (l_sub_some (l_sub_nil))))))))) (w_X12_layOrder_108 G d _ (ih) fu x2 x3 x4 x5 x6 v15 σ)
set_option maxHeartbeats 4000000 in
set_option maxRecDepth 100000 in
theorem w_X12_layOrder_84 (G : JG) (d : Nat) (k35 : Int32 → Int32 → Int32 → Int32 → Mem → Option Mem) (hk35 : ∀ (x2 : Int32) (x3 : Int32) (x4 : Int32) (x5 : Int32) (σ : Mem), JO G mX12_layOrder d 35 [some (.ref (G.1 + off 1000)), none, some (.int x2), some (.int x3), some (.int x4), some (.int x5), none, none] [] σ rV (k35 x2 x3 x4 x5 σ)) : ∀ (n : Nat) (x2 : Int32) (x3 : Int32) (x4 : Int32) (x5 : Int32) (x6 : Int32) (x7 : Int32) (σ : Mem), JO G mX12_layOrder d 84 [some (.ref (G.1 + off 1000)), none, some (.int x2), some (.int x3), some (.int x4), some (.int x5), some (.int x6), some (.int x7)] [] σ rV (X12_layOrder_84 k35 n x2 x3 x4 x5 x6 x7 σ) := by
  intro n
  induction n with
  | zero =>
    intro x2 x3 x4 x5 x6 x7 σ
    exact JO_none
  | succ n ih =>
    intro x2 x3 x4 x5 x6 x7 σ
    rw [X12_layOrder_84]
    refine JO_iload_n (pc := 84) dX12_layOrder_84 rfl ?_
    refine JO_iload (pc := 85) dX12_layOrder_85 rfl ?_
    refine JO_ishr (pc := 87) dX12_layOrder_87 ?_
    refine JO_iconst (pc := 88) (a := 1) dX12_layOrder_88 (by decide) ?_
    refine JO_iand (pc := 89) dX12_layOrder_89 ?_
    refine JO_iconst (pc := 90) (a := 1) dX12_layOrder_90 (by decide) ?_
    refine JO_icmp_ne (pc := 91) (tgt := 100) dX12_layOrder_91 (by decide) ?_ ?_
    · exact JO_sub (l_sub_some (l_sub_none (l_sub_some (l_sub_some (l_sub_some (l_sub_some (l_sub_some (l_sub_some (l_sub_nil))))))))) (w_X12_layOrder_100 G d _ (hk35) fu x2 x3 x4 x5 x6 x7 σ)
    · refine JO_inc (pc := 94) (b := 1) (L' := fun v11 => [some (.ref (G.1 + off 1000)), none, some (.int x2), some (.int x3), some (.int x4), some (.int x5), some (.int x6), some (.int v11)]) dX12_layOrder_94 rfl rfl (by decide) rfl (fun _ => rfl) (fun v11 => ?_)
      refine JO_goto (pc := 97) (tgt := 84) dX12_layOrder_97 (by decide) ?_
      exact JO_sub (l_sub_some (l_sub_none (l_sub_some (l_sub_some (l_sub_some (l_sub_some (l_sub_some (l_sub_some (l_sub_nil))))))))) (ih x2 x3 x4 x5 x6 v11 σ)
set_option maxHeartbeats 4000000 in
set_option maxRecDepth 100000 in
theorem w_X12_layOrder_81 (G : JG) (d : Nat) (k35 : Int32 → Int32 → Int32 → Int32 → Mem → Option Mem) (hk35 : ∀ (x2 : Int32) (x3 : Int32) (x4 : Int32) (x5 : Int32) (σ : Mem), JO G mX12_layOrder d 35 [some (.ref (G.1 + off 1000)), none, some (.int x2), some (.int x3), some (.int x4), some (.int x5), none, none] [] σ rV (k35 x2 x3 x4 x5 σ)) : ∀ (x2 : Int32) (x3 : Int32) (x4 : Int32) (x5 : Int32) (x6 : Int32) (σ : Mem), JO G mX12_layOrder d 81 [some (.ref (G.1 + off 1000)), none, some (.int x2), some (.int x3), some (.int x4), some (.int x5), some (.int x6), none] [] σ rV (X12_layOrder_81 k35 x2 x3 x4 x5 x6 σ) := by
  intro x2 x3 x4 x5 x6 σ
  unfold X12_layOrder_81
  refine JO_iconst (pc := 81) (a := 0) dX12_layOrder_81 (by decide) ?_
  refine JO_nm (fun v10 => ?_)
  refine JO_istore (pc := 82) (L' := [some (.ref (G.1 + off 1000)), none, some (.int x2), some (.int x3), some (.int x4), some (.int x5), some (.int x6), some (.int v10)]) dX12_layOrder_82 rfl rfl rfl ?_
  exact JO_sub (l_sub_some (l_sub_none (l_sub_some (l_sub_some (l_sub_some (l_sub_some (l_sub_some (l_sub_some (l_sub_nil))))))))) (w_X12_layOrder_84 G d _ (hk35) fu x2 x3 x4 x5 x6 v10 σ)
set_option maxHeartbeats 4000000 in
set_option maxRecDepth 100000 in
theorem w_X12_layOrder_35 (G : JG) (d : Nat) : ∀ (n : Nat) (x2 : Int32) (x3 : Int32) (x4 : Int32) (x5 : Int32) (σ : Mem), JO G mX12_layOrder d 35 [some (.ref (G.1 + off 1000)), none, some (.int x2), some (.int x3), some (.int x4), some (.int x5), none, none] [] σ rV (X12_layOrder_35 n x2 x3 x4 x5 σ) := by
  intro n
  induction n with
  | zero =>
    intro x2 x3 x4 x5 σ
    exact JO_none
  | succ n ih =>
    intro x2 x3 x4 x5 σ
    rw [X12_layOrder_35]
    refine JO_iload (pc := 35) dX12_layOrder_35 rfl ?_
    refine JO_aload_n (pc := 37) dX12_layOrder_37 rfl ?_
    refine JO_getI (pc := 38) fl_X12_521 rfl fkX12_creditorMany dX12_layOrder_38 ?_
    refine JO_icmp_ge (pc := 41) (tgt := 157) dX12_layOrder_41 (by decide) ?_ ?_
    · exact JO_retv (pc := 157) rfl dX12_layOrder_157
    · refine JO_iload_n (pc := 44) dX12_layOrder_44 rfl ?_
      refine JO_iload (pc := 45) dX12_layOrder_45 rfl ?_
      refine JO_idiv (pc := 47) dX12_layOrder_47 ?_
      refine JO_nm (fun v7 => ?_)
      refine JO_istore (pc := 48) (L' := [some (.ref (G.1 + off 1000)), none, some (.int x2), some (.int x3), some (.int x4), some (.int x5), some (.int v7), none]) dX12_layOrder_48 rfl rfl rfl ?_
      refine JO_iload_n (pc := 50) dX12_layOrder_50 rfl ?_
      refine JO_iload (pc := 51) dX12_layOrder_51 rfl ?_
      refine JO_irem (pc := 53) dX12_layOrder_53 ?_
      refine JO_nm (fun v8 => ?_)
      refine JO_istore_n (pc := 54) (L' := [some (.ref (G.1 + off 1000)), none, some (.int x2), some (.int v8), some (.int x4), some (.int x5), some (.int v7), none]) dX12_layOrder_54 rfl rfl rfl ?_
      refine JO_aload_n (pc := 55) dX12_layOrder_55 rfl ?_
      refine JO_getI (pc := 56) fl_X12_521 rfl fkX12_creditorMany dX12_layOrder_56 ?_
      refine JO_iconst (pc := 59) (a := 1) dX12_layOrder_59 (by decide) ?_
      refine JO_isub (pc := 60) dX12_layOrder_60 ?_
      refine JO_iload (pc := 61) dX12_layOrder_61 rfl ?_
      refine JO_isub (pc := 63) dX12_layOrder_63 ?_
      refine JO_if_le (pc := 64) (tgt := 81) dX12_layOrder_64 (by decide) ?_ ?_
      · exact JO_sub (l_sub_some (l_sub_none (l_sub_some (l_sub_some (l_sub_some (l_sub_some (l_sub_some (l_sub_none (l_sub_nil))))))))) (w_X12_layOrder_81 G d _ (ih) x2 v8 x4 x5 v7 σ)
      · refine JO_iload (pc := 67) dX12_layOrder_67 rfl ?_
        refine JO_aload_n (pc := 69) dX12_layOrder_69 rfl ?_
        refine JO_getI (pc := 70) fl_X12_521 rfl fkX12_creditorMany dX12_layOrder_70 ?_
        refine JO_iconst (pc := 73) (a := 1) dX12_layOrder_73 (by decide) ?_
        refine JO_isub (pc := 74) dX12_layOrder_74 ?_
        refine JO_iload (pc := 75) dX12_layOrder_75 rfl ?_
        refine JO_isub (pc := 77) dX12_layOrder_77 ?_
        refine JO_idiv (pc := 78) dX12_layOrder_78 ?_
        refine JO_nm (fun v9 => ?_)
        refine JO_istore (pc := 79) (L' := [some (.ref (G.1 + off 1000)), none, some (.int x2), some (.int v8), some (.int v9), some (.int x5), some (.int v7), none]) dX12_layOrder_79 rfl rfl rfl ?_
        exact JO_sub (l_sub_some (l_sub_none (l_sub_some (l_sub_some (l_sub_some (l_sub_some (l_sub_some (l_sub_none (l_sub_nil))))))))) (w_X12_layOrder_81 G d _ (ih) x2 v8 v9 x5 v7 σ)
set_option maxHeartbeats 4000000 in
set_option maxRecDepth 100000 in
theorem w_X12_layOrder_10 (G : JG) (d : Nat) : ∀ (n : Nat) (x2 : Int32) (x3 : Int32) (x4 : Int32) (x5 : Int32) (σ : Mem), JO G mX12_layOrder d 10 [some (.ref (G.1 + off 1000)), none, some (.int x2), some (.int x3), some (.int x4), some (.int x5), none, none] [] σ rV (X12_layOrder_10 n x2 x3 x4 x5 σ) := by
  intro n
  induction n with
  | zero =>
    intro x2 x3 x4 x5 σ
    exact JO_none
  | succ n ih =>
    intro x2 x3 x4 x5 σ
    rw [X12_layOrder_10]
    refine JO_iload (pc := 10) dX12_layOrder_10 rfl ?_
    refine JO_aload_n (pc := 12) dX12_layOrder_12 rfl ?_
    refine JO_getI (pc := 13) fl_X12_521 rfl fkX12_creditorMany dX12_layOrder_13 ?_
    refine JO_icmp_ge (pc := 16) (tgt := 32) dX12_layOrder_16 (by decide) ?_ ?_
    · refine JO_iconst (pc := 32) (a := 0) dX12_layOrder_32 (by decide) ?_
      refine JO_nm (fun v4 => ?_)
      refine JO_istore (pc := 33) (L' := [some (.ref (G.1 + off 1000)), none, some (.int x2), some (.int x3), some (.int x4), some (.int v4), none, none]) dX12_layOrder_33 rfl rfl rfl ?_
      exact JO_sub (l_sub_some (l_sub_none (l_sub_some (l_sub_some (l_sub_some (l_sub_some (l_sub_none (l_sub_none (l_sub_nil))))))))) (w_X12_layOrder_35 G d fu x2 x3 x4 v4 σ)
    · refine JO_iload (pc := 19) dX12_layOrder_19 rfl ?_
      refine JO_iload (pc := 21) dX12_layOrder_21 rfl ?_
      refine JO_imul (pc := 23) dX12_layOrder_23 ?_
      refine JO_nm (fun v5 => ?_)
      refine JO_istore (pc := 24) (L' := [some (.ref (G.1 + off 1000)), none, some (.int x2), some (.int x3), some (.int v5), some (.int x5), none, none]) dX12_layOrder_24 rfl rfl rfl ?_
      refine JO_inc (pc := 26) (b := 1) (L' := fun v6 => [some (.ref (G.1 + off 1000)), none, some (.int x2), some (.int x3), some (.int v5), some (.int v6), none, none]) dX12_layOrder_26 rfl rfl (by decide) rfl (fun _ => rfl) (fun v6 => ?_)
      refine JO_goto (pc := 29) (tgt := 10) dX12_layOrder_29 (by decide) ?_
      exact JO_sub (l_sub_some (l_sub_none (l_sub_some (l_sub_some (l_sub_some (l_sub_some (l_sub_none (l_sub_none (l_sub_nil))))))))) (ih x2 x3 v5 v6 σ)
set_option maxHeartbeats 4000000 in
set_option maxRecDepth 100000 in
theorem w_X12_layOrder (G : JG) (d : Nat) (x1 : Int32) (σ : Mem) : JS G mX12_layOrder d [.ref (G.1 + off 1000), .int x1] σ rV (X12_layOrder x1 σ) := by
  refine JS_of 6 (by decide +kernel) (Nat.le_of_ble_eq_true rfl) (L := [some (.ref (G.1 + off 1000)), some (.int x1), none, none, none, none, none, none]) rfl ?_
  unfold X12_layOrder
  refine JO_iconst (pc := 0) (a := 0) dX12_layOrder_0 (by decide) ?_
  refine JO_nm (fun v1 => ?_)
  refine JO_istore_n (pc := 1) (L' := [some (.ref (G.1 + off 1000)), some (.int x1), some (.int v1), none, none, none, none, none]) dX12_layOrder_1 rfl rfl rfl ?_
  refine JO_iload_n (pc := 2) dX12_layOrder_2 rfl ?_
  refine JO_istore_n (pc := 3) (L' := [some (.ref (G.1 + off 1000)), some (.int x1), some (.int v1), some (.int x1), none, none, none, none]) dX12_layOrder_3 rfl rfl rfl ?_
  refine JO_iconst (pc := 4) (a := 1) dX12_layOrder_4 (by decide) ?_
  refine JO_nm (fun v2 => ?_)
  refine JO_istore (pc := 5) (L' := [some (.ref (G.1 + off 1000)), some (.int x1), some (.int v1), some (.int x1), some (.int v2), none, none, none]) dX12_layOrder_5 rfl rfl rfl ?_
  refine JO_iconst (pc := 7) (a := 2) dX12_layOrder_7 (by decide) ?_
  refine JO_nm (fun v3 => ?_)
  refine JO_istore (pc := 8) (L' := [some (.ref (G.1 + off 1000)), some (.int x1), some (.int v1), some (.int x1), some (.int v2), some (.int v3), none, none]) dX12_layOrder_8 rfl rfl rfl ?_
  exact JO_sub (l_sub_some (l_sub_none (l_sub_some (l_sub_some (l_sub_some (l_sub_some (l_sub_none (l_sub_none (l_sub_nil))))))))) (w_X12_layOrder_10 G d fu v1 x1 v2 v3 σ)
set_option maxHeartbeats 4000000 in
set_option maxRecDepth 100000 in
theorem w_X12_hoursBy_78 (G : JG) (d : Nat) (k39 : Int32 → Int32 → Int32 → Int32 → Mem → Option (Int32 × Mem)) (hk39 : ∀ (x1 : Int32) (x2 : Int32) (x3 : Int32) (x4 : Int32) (σ : Mem), JO G mX12_hoursBy (d + 6) 39 [some (.ref (G.1 + off 1000)), some (.int x1), some (.int x2), some (.int x3), some (.int x4)] [] σ rI (k39 x1 x2 x3 x4 σ)) : ∀ (x1 : Int32) (x2 : Int32) (x3 : Int32) (x4 : Int32) (σ : Mem), JO G mX12_hoursBy (d + 6) 78 [some (.ref (G.1 + off 1000)), some (.int x1), some (.int x2), some (.int x3), some (.int x4)] [] σ rI (X12_hoursBy_78 k39 x1 x2 x3 x4 σ) := by
  intro x1 x2 x3 x4 σ
  unfold X12_hoursBy_78
  refine JO_iload_n (pc := 78) dX12_hoursBy_78 rfl ?_
  refine JO_aload_n (pc := 79) dX12_hoursBy_79 rfl ?_
  refine JO_getI (pc := 80) fl_X12_521 rfl fkX12_creditorMany dX12_hoursBy_80 ?_
  refine JO_icmp_ne (pc := 83) (tgt := 89) dX12_hoursBy_83 (by decide) ?_ ?_
  · refine JO_aload_n (pc := 89) dX12_hoursBy_89 rfl ?_
    refine JO_getR (pc := 90) fl_X12_105 rfl fkX12_aim dX12_hoursBy_90 ?_
    refine JO_iload_n (pc := 93) dX12_hoursBy_93 rfl ?_
    refine JO_aload_n (pc := 94) dX12_hoursBy_94 rfl ?_
    refine JO_getR (pc := 95) fl_X12_139 rfl fkX12_order dX12_hoursBy_95 ?_
    refine JO_iload_n (pc := 98) dX12_hoursBy_98 rfl ?_
    refine JO_iald (pc := 99) akX12_order dX12_hoursBy_99 ?_
    refine JO_iast (pc := 100) akX12_aim dX12_hoursBy_100 (fun σ9 => ?_)
    refine JO_aload_n (pc := 101) dX12_hoursBy_101 rfl ?_
    refine JO_callVv (pc := 102) [] lk_X12_481 rfl (ci := 12) rfl shX12 (w_X12_goHour G d  σ9) rfl rfl (Nat.le_of_ble_eq_true rfl) dX12_hoursBy_102 (fun σ10 => ?_)
    refine JO_inc (pc := 105) (b := 1) (L' := fun v11 => [some (.ref (G.1 + off 1000)), some (.int x1), some (.int x2), some (.int x3), some (.int v11)]) dX12_hoursBy_105 rfl rfl (by decide) rfl (fun _ => rfl) (fun v11 => ?_)
    refine JO_goto (pc := 108) (tgt := 39) dX12_hoursBy_108 (by decide) ?_
    exact JO_sub (l_sub_some (l_sub_some (l_sub_some (l_sub_some (l_sub_some (l_sub_nil)))))) (hk39 x1 x2 x3 v11 σ10)
  · refine JO_iload (pc := 86) dX12_hoursBy_86 rfl ?_
    exact JO_reti (pc := 88) rfl dX12_hoursBy_88
set_option maxHeartbeats 4000000 in
set_option maxRecDepth 100000 in
theorem w_X12_hoursBy_45 (G : JG) (d : Nat) (k39 : Int32 → Int32 → Int32 → Int32 → Mem → Option (Int32 × Mem)) (hk39 : ∀ (x1 : Int32) (x2 : Int32) (x3 : Int32) (x4 : Int32) (σ : Mem), JO G mX12_hoursBy (d + 6) 39 [some (.ref (G.1 + off 1000)), some (.int x1), some (.int x2), some (.int x3), some (.int x4)] [] σ rI (k39 x1 x2 x3 x4 σ)) : ∀ (n : Nat) (x1 : Int32) (x2 : Int32) (x3 : Int32) (x4 : Int32) (σ : Mem), JO G mX12_hoursBy (d + 6) 45 [some (.ref (G.1 + off 1000)), some (.int x1), some (.int x2), some (.int x3), some (.int x4)] [] σ rI (X12_hoursBy_45 k39 n x1 x2 x3 x4 σ) := by
  intro n
  induction n with
  | zero =>
    intro x1 x2 x3 x4 σ
    exact JO_none
  | succ n ih =>
    intro x1 x2 x3 x4 σ
    rw [X12_hoursBy_45]
    refine JO_iload_n (pc := 45) dX12_hoursBy_45 rfl ?_
    refine JO_aload_n (pc := 46) dX12_hoursBy_46 rfl ?_
    refine JO_getI (pc := 47) fl_X12_521 rfl fkX12_creditorMany dX12_hoursBy_47 ?_
    refine JO_icmp_ge (pc := 50) (tgt := 78) dX12_hoursBy_50 (by decide) ?_ ?_
    · exact JO_sub (l_sub_some (l_sub_some (l_sub_some (l_sub_some (l_sub_some (l_sub_nil)))))) (w_X12_hoursBy_78 G d _ (hk39) x1 x2 x3 x4 σ)
    · refine JO_aload_n (pc := 53) dX12_hoursBy_53 rfl ?_
      refine JO_getR (pc := 54) fl_X12_114 rfl fkX12_owed dX12_hoursBy_54 ?_
      refine JO_bipush (pc := 57) (a := 6) dX12_hoursBy_57 (by decide) ?_
      refine JO_iload_n (pc := 59) dX12_hoursBy_59 rfl ?_
      refine JO_imul (pc := 60) dX12_hoursBy_60 ?_
      refine JO_aload_n (pc := 61) dX12_hoursBy_61 rfl ?_
      refine JO_getR (pc := 62) fl_X12_139 rfl fkX12_order dX12_hoursBy_62 ?_
      refine JO_iload_n (pc := 65) dX12_hoursBy_65 rfl ?_
      refine JO_iald (pc := 66) akX12_order dX12_hoursBy_66 ?_
      refine JO_iadd (pc := 67) dX12_hoursBy_67 ?_
      refine JO_iald (pc := 68) akX12_owed dX12_hoursBy_68 ?_
      refine JO_if_ne (pc := 69) (tgt := 78) dX12_hoursBy_69 (by decide) ?_ ?_
      · exact JO_sub (l_sub_some (l_sub_some (l_sub_some (l_sub_some (l_sub_some (l_sub_nil)))))) (w_X12_hoursBy_78 G d _ (hk39) x1 x2 x3 x4 σ)
      · refine JO_inc (pc := 72) (b := 1) (L' := fun v8 => [some (.ref (G.1 + off 1000)), some (.int x1), some (.int x2), some (.int v8), some (.int x4)]) dX12_hoursBy_72 rfl rfl (by decide) rfl (fun _ => rfl) (fun v8 => ?_)
        refine JO_goto (pc := 75) (tgt := 45) dX12_hoursBy_75 (by decide) ?_
        exact JO_sub (l_sub_some (l_sub_some (l_sub_some (l_sub_some (l_sub_some (l_sub_nil)))))) (ih x1 x2 v8 x4 σ)
set_option maxHeartbeats 4000000 in
set_option maxRecDepth 100000 in
theorem w_X12_hoursBy_39 (G : JG) (d : Nat) : ∀ (n : Nat) (x1 : Int32) (x2 : Int32) (x3 : Int32) (x4 : Int32) (σ : Mem), JO G mX12_hoursBy (d + 6) 39 [some (.ref (G.1 + off 1000)), some (.int x1), some (.int x2), some (.int x3), some (.int x4)] [] σ rI (X12_hoursBy_39 n x1 x2 x3 x4 σ) := by
  intro n
  induction n with
  | zero =>
    intro x1 x2 x3 x4 σ
    exact JO_none
  | succ n ih =>
    intro x1 x2 x3 x4 σ
    rw [X12_hoursBy_39]
    refine JO_iload (pc := 39) dX12_hoursBy_39 rfl ?_
    refine JO_iload_n (pc := 41) dX12_hoursBy_41 rfl ?_
    refine JO_icmp_ge (pc := 42) (tgt := 111) dX12_hoursBy_42 (by decide) ?_ ?_
    · refine JO_iload_n (pc := 111) dX12_hoursBy_111 rfl ?_
      exact JO_reti (pc := 112) rfl dX12_hoursBy_112
    · exact JO_sub (l_sub_some (l_sub_some (l_sub_some (l_sub_some (l_sub_some (l_sub_nil)))))) (w_X12_hoursBy_45 G d _ (ih) fu x1 x2 x3 x4 σ)
set_option maxHeartbeats 4000000 in
set_option maxRecDepth 100000 in
theorem w_X12_hoursBy_6 (G : JG) (d : Nat) : ∀ (n : Nat) (x1 : Int32) (x2 : Int32) (x3 : Int32) (σ : Mem), JO G mX12_hoursBy (d + 6) 6 [some (.ref (G.1 + off 1000)), some (.int x1), some (.int x2), some (.int x3), none] [] σ rI (X12_hoursBy_6 n x1 x2 x3 σ) := by
  intro n
  induction n with
  | zero =>
    intro x1 x2 x3 σ
    exact JO_none
  | succ n ih =>
    intro x1 x2 x3 σ
    rw [X12_hoursBy_6]
    refine JO_iload_n (pc := 6) dX12_hoursBy_6 rfl ?_
    refine JO_aload_n (pc := 7) dX12_hoursBy_7 rfl ?_
    refine JO_getI (pc := 8) fl_X12_401 rfl fkX12_people dX12_hoursBy_8 ?_
    refine JO_icmp_ge (pc := 11) (tgt := 27) dX12_hoursBy_11 (by decide) ?_ ?_
    · refine JO_aload_n (pc := 27) dX12_hoursBy_27 rfl ?_
      refine JO_getR (pc := 28) fl_X12_108 rfl fkX12_whom dX12_hoursBy_28 ?_
      refine JO_iload_n (pc := 31) dX12_hoursBy_31 rfl ?_
      refine JO_iload_n (pc := 32) dX12_hoursBy_32 rfl ?_
      refine JO_iast (pc := 33) akX12_whom dX12_hoursBy_33 (fun σ3 => ?_)
      refine JO_iconst (pc := 34) (a := 0) dX12_hoursBy_34 (by decide) ?_
      refine JO_nm (fun v4 => ?_)
      refine JO_istore_n (pc := 35) (L' := [some (.ref (G.1 + off 1000)), some (.int x1), some (.int x2), some (.int v4), none]) dX12_hoursBy_35 rfl rfl rfl ?_
      refine JO_iconst (pc := 36) (a := 0) dX12_hoursBy_36 (by decide) ?_
      refine JO_nm (fun v5 => ?_)
      refine JO_istore (pc := 37) (L' := [some (.ref (G.1 + off 1000)), some (.int x1), some (.int x2), some (.int v4), some (.int v5)]) dX12_hoursBy_37 rfl rfl rfl ?_
      exact JO_sub (l_sub_some (l_sub_some (l_sub_some (l_sub_some (l_sub_some (l_sub_nil)))))) (w_X12_hoursBy_39 G d fu x1 x2 v4 v5 σ3)
    · refine JO_aload_n (pc := 14) dX12_hoursBy_14 rfl ?_
      refine JO_getR (pc := 15) fl_X12_105 rfl fkX12_aim dX12_hoursBy_15 ?_
      refine JO_iload_n (pc := 18) dX12_hoursBy_18 rfl ?_
      refine JO_iconst (pc := 19) (a := (-1)) dX12_hoursBy_19 (by decide) ?_
      refine JO_iast (pc := 20) akX12_aim dX12_hoursBy_20 (fun σ6 => ?_)
      refine JO_inc (pc := 21) (b := 1) (L' := fun v7 => [some (.ref (G.1 + off 1000)), some (.int x1), some (.int x2), some (.int v7), none]) dX12_hoursBy_21 rfl rfl (by decide) rfl (fun _ => rfl) (fun v7 => ?_)
      refine JO_goto (pc := 24) (tgt := 6) dX12_hoursBy_24 (by decide) ?_
      exact JO_sub (l_sub_some (l_sub_some (l_sub_some (l_sub_some (l_sub_none (l_sub_nil)))))) (ih x1 x2 v7 σ6)
set_option maxHeartbeats 4000000 in
set_option maxRecDepth 100000 in
theorem w_X12_hoursBy (G : JG) (d : Nat) (x1 : Int32) (x2 : Int32) (σ : Mem) : JS G mX12_hoursBy (d + 6) [.ref (G.1 + off 1000), .int x1, .int x2] σ rI (X12_hoursBy x1 x2 σ) := by
  refine JS_of 2 (by decide +kernel) (Nat.le_of_ble_eq_true rfl) (L := [some (.ref (G.1 + off 1000)), some (.int x1), some (.int x2), none, none]) rfl ?_
  unfold X12_hoursBy
  refine JO_aload_n (pc := 0) dX12_hoursBy_0 rfl ?_
  refine JO_callVv (pc := 1) [] lk_X12_487 rfl (ci := 12) rfl shX12 (w_X12_load G (d + 5)  σ) rfl rfl (Nat.le_of_ble_eq_true rfl) dX12_hoursBy_1 (fun σ1 => ?_)
  refine JO_iconst (pc := 4) (a := 0) dX12_hoursBy_4 (by decide) ?_
  refine JO_nm (fun v2 => ?_)
  refine JO_istore_n (pc := 5) (L' := [some (.ref (G.1 + off 1000)), some (.int x1), some (.int x2), some (.int v2), none]) dX12_hoursBy_5 rfl rfl rfl ?_
  exact JO_sub (l_sub_some (l_sub_some (l_sub_some (l_sub_some (l_sub_none (l_sub_nil)))))) (w_X12_hoursBy_6 G d fu x1 x2 v2 σ1)
