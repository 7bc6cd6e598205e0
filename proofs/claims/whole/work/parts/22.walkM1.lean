set_option maxHeartbeats 4000000 in
set_option maxRecDepth 100000 in
theorem w_X12_noAsks_2 (G : JG) (d : Nat) : ∀ (n : Nat) (x1 : Int32) (σ : Mem), JO G mX12_noAsks d 2 [some (.ref (G.1 + off 1000)), some (.int x1)] [] σ rV (X12_noAsks_2 n x1 σ) := by
  intro n
  induction n with
  | zero =>
    intro x1 σ
    exact JO_none
  | succ n ih =>
    intro x1 σ
    rw [X12_noAsks_2]
    refine JO_iload_n (pc := 2) dX12_noAsks_2 rfl ?_
    refine JO_bipush (pc := 3) (a := 7) dX12_noAsks_3 (by decide) ?_
    refine JO_icmp_ge (pc := 5) (tgt := 21) dX12_noAsks_5 (by decide) ?_ ?_
    · exact JO_retv (pc := 21) rfl dX12_noAsks_21
    · refine JO_aload_n (pc := 8) dX12_noAsks_8 rfl ?_
      refine JO_getR (pc := 9) fl_X12_45 rfl fkX12_asks dX12_noAsks_9 ?_
      refine JO_iload_n (pc := 12) dX12_noAsks_12 rfl ?_
      refine JO_iconst (pc := 13) (a := 0) dX12_noAsks_13 (by decide) ?_
      refine JO_iast (pc := 14) akX12_asks dX12_noAsks_14 (fun σ2 => ?_)
      refine JO_inc (pc := 15) (b := 1) (L' := fun v3 => [some (.ref (G.1 + off 1000)), some (.int v3)]) dX12_noAsks_15 rfl rfl (by decide) rfl (fun _ => rfl) (fun v3 => ?_)
      refine JO_goto (pc := 18) (tgt := 2) dX12_noAsks_18 (by decide) ?_
      exact JO_sub (l_sub_some (l_sub_some (l_sub_nil))) (ih v3 σ2)
set_option maxHeartbeats 4000000 in
set_option maxRecDepth 100000 in
theorem w_X12_noAsks (G : JG) (d : Nat) (σ : Mem) : JS G mX12_noAsks d [.ref (G.1 + off 1000)] σ rV (X12_noAsks σ) := by
  refine JS_of 1 (by decide +kernel) (Nat.le_of_ble_eq_true rfl) (L := [some (.ref (G.1 + off 1000)), none]) rfl ?_
  unfold X12_noAsks
  refine JO_iconst (pc := 0) (a := 0) dX12_noAsks_0 (by decide) ?_
  refine JO_nm (fun v1 => ?_)
  refine JO_istore_n (pc := 1) (L' := [some (.ref (G.1 + off 1000)), some (.int v1)]) dX12_noAsks_1 rfl rfl rfl ?_
  exact JO_sub (l_sub_some (l_sub_some (l_sub_nil))) (w_X12_noAsks_2 G d fu v1 σ)
set_option maxHeartbeats 4000000 in
set_option maxRecDepth 100000 in
theorem w_X12_worked_117 (G : JG) (d : Nat) (k158 : Int32 → Int32 → Int32 → Mem → Option (Int32 × Mem)) (hk158 : ∀ (x1 : Int32) (x2 : Int32) (x3 : Int32) (σ : Mem), JO G mX12_worked (d + 2) 158 [some (.ref (G.1 + off 1000)), some (.int x1), some (.int x2), some (.int x3)] [] σ rI (k158 x1 x2 x3 σ)) : ∀ (x1 : Int32) (x2 : Int32) (x3 : Int32) (s0 : Int32) (s1 : Int32) (σ : Mem), JO G mX12_worked (d + 2) 117 [some (.ref (G.1 + off 1000)), some (.int x1), some (.int x2), some (.int x3)] [.int s0, .int s1, .ref (G.1 + off 1010)] σ rI (X12_worked_117 k158 x1 x2 x3 s0 s1 σ) := by
  intro x1 x2 x3 s0 s1 σ
  unfold X12_worked_117
  refine JO_callSi (pc := 117) [.int s0] lk_X12_343 rfl (w_X12_truth G (d + 1) s0 σ) rfl rfl (Nat.le_of_ble_eq_true rfl) dX12_worked_117 (fun r7 => ?_)
  refine JO_iast (pc := 120) akX12_values dX12_worked_120 (fun σ8 => ?_)
  refine JO_goto (pc := 121) (tgt := 158) dX12_worked_121 (by decide) ?_
  exact JO_sub (l_sub_some (l_sub_some (l_sub_some (l_sub_some (l_sub_nil))))) (hk158 x1 x2 x3 σ8)
set_option maxHeartbeats 4000000 in
set_option maxRecDepth 100000 in
theorem w_X12_worked_77 (G : JG) (d : Nat) (k158 : Int32 → Int32 → Int32 → Mem → Option (Int32 × Mem)) (hk158 : ∀ (x1 : Int32) (x2 : Int32) (x3 : Int32) (σ : Mem), JO G mX12_worked (d + 2) 158 [some (.ref (G.1 + off 1000)), some (.int x1), some (.int x2), some (.int x3)] [] σ rI (k158 x1 x2 x3 σ)) : ∀ (x1 : Int32) (x2 : Int32) (x3 : Int32) (s0 : Int32) (s1 : Int32) (σ : Mem), JO G mX12_worked (d + 2) 77 [some (.ref (G.1 + off 1000)), some (.int x1), some (.int x2), some (.int x3)] [.int s0, .int s1, .ref (G.1 + off 1010)] σ rI (X12_worked_77 k158 x1 x2 x3 s0 s1 σ) := by
  intro x1 x2 x3 s0 s1 σ
  unfold X12_worked_77
  refine JO_iast (pc := 77) akX12_values dX12_worked_77 (fun σ9 => ?_)
  refine JO_inc (pc := 78) (b := 1) (L' := fun v10 => [some (.ref (G.1 + off 1000)), some (.int x1), some (.int v10), some (.int x3)]) dX12_worked_78 rfl rfl (by decide) rfl (fun _ => rfl) (fun v10 => ?_)
  refine JO_goto (pc := 81) (tgt := 158) dX12_worked_81 (by decide) ?_
  exact JO_sub (l_sub_some (l_sub_some (l_sub_some (l_sub_some (l_sub_nil))))) (hk158 x1 v10 x3 σ9)
set_option maxHeartbeats 4000000 in
set_option maxRecDepth 100000 in
theorem w_X12_worked_43 (G : JG) (d : Nat) (k158 : Int32 → Int32 → Int32 → Mem → Option (Int32 × Mem)) (hk158 : ∀ (x1 : Int32) (x2 : Int32) (x3 : Int32) (σ : Mem), JO G mX12_worked (d + 2) 158 [some (.ref (G.1 + off 1000)), some (.int x1), some (.int x2), some (.int x3)] [] σ rI (k158 x1 x2 x3 σ)) : ∀ (x1 : Int32) (x2 : Int32) (x3 : Int32) (σ : Mem), JO G mX12_worked (d + 2) 43 [some (.ref (G.1 + off 1000)), some (.int x1), some (.int x2), some (.int x3)] [] σ rI (X12_worked_43 k158 x1 x2 x3 σ) := by
  intro x1 x2 x3 σ
  unfold X12_worked_43
  refine JO_aload_n (pc := 43) dX12_worked_43 rfl ?_
  refine JO_getR (pc := 44) fl_X12_42 rfl fkX12_values dX12_worked_44 ?_
  refine JO_iload_n (pc := 47) dX12_worked_47 rfl ?_
  refine JO_aload_n (pc := 48) dX12_worked_48 rfl ?_
  refine JO_getR (pc := 49) fl_X12_30 rfl fkX12_step dX12_worked_49 ?_
  refine JO_iload_n (pc := 52) dX12_worked_52 rfl ?_
  refine JO_iald (pc := 53) akX12_step dX12_worked_53 ?_
  refine JO_if_ne (pc := 54) (tgt := 66) dX12_worked_54 (by decide) ?_ ?_
  · refine JO_aload_n (pc := 66) dX12_worked_66 rfl ?_
    refine JO_getR (pc := 67) fl_X12_45 rfl fkX12_asks dX12_worked_67 ?_
    refine JO_aload_n (pc := 70) dX12_worked_70 rfl ?_
    refine JO_getR (pc := 71) fl_X12_33 rfl fkX12_arg dX12_worked_71 ?_
    refine JO_iload_n (pc := 74) dX12_worked_74 rfl ?_
    refine JO_iald (pc := 75) akX12_arg dX12_worked_75 ?_
    refine JO_iald (pc := 76) akX12_asks dX12_worked_76 ?_
    exact JO_sub (l_sub_some (l_sub_some (l_sub_some (l_sub_some (l_sub_nil))))) (w_X12_worked_77 G d _ (hk158) x1 x2 x3 (σ.1 1011 (σ.1 1007 x3.toNatClampNeg).toNatClampNeg) x2 σ)
  · refine JO_aload_n (pc := 57) dX12_worked_57 rfl ?_
    refine JO_getR (pc := 58) fl_X12_33 rfl fkX12_arg dX12_worked_58 ?_
    refine JO_iload_n (pc := 61) dX12_worked_61 rfl ?_
    refine JO_iald (pc := 62) akX12_arg dX12_worked_62 ?_
    refine JO_goto (pc := 63) (tgt := 77) dX12_worked_63 (by decide) ?_
    exact JO_sub (l_sub_some (l_sub_some (l_sub_some (l_sub_some (l_sub_nil))))) (w_X12_worked_77 G d _ (hk158) x1 x2 x3 (σ.1 1007 x3.toNatClampNeg) x2 σ)
set_option maxHeartbeats 4000000 in
set_option maxRecDepth 100000 in
theorem w_X12_worked_158 (G : JG) (d : Nat) (k8 : Int32 → Int32 → Int32 → Mem → Option (Int32 × Mem)) (hk8 : ∀ (x1 : Int32) (x2 : Int32) (x3 : Int32) (σ : Mem), JO G mX12_worked (d + 2) 8 [some (.ref (G.1 + off 1000)), some (.int x1), some (.int x2), some (.int x3)] [] σ rI (k8 x1 x2 x3 σ)) : ∀ (x1 : Int32) (x2 : Int32) (x3 : Int32) (σ : Mem), JO G mX12_worked (d + 2) 158 [some (.ref (G.1 + off 1000)), some (.int x1), some (.int x2), some (.int x3)] [] σ rI (X12_worked_158 k8 x1 x2 x3 σ) := by
  intro x1 x2 x3 σ
  unfold X12_worked_158
  refine JO_inc (pc := 158) (b := 1) (L' := fun v6 => [some (.ref (G.1 + off 1000)), some (.int x1), some (.int x2), some (.int v6)]) dX12_worked_158 rfl rfl (by decide) rfl (fun _ => rfl) (fun v6 => ?_)
  refine JO_goto (pc := 161) (tgt := 8) dX12_worked_161 (by decide) ?_
  exact JO_sub (l_sub_some (l_sub_some (l_sub_some (l_sub_some (l_sub_nil))))) (hk8 x1 x2 v6 σ)
set_option maxHeartbeats 4000000 in
set_option maxRecDepth 100000 in
theorem w_X12_worked_8 (G : JG) (d : Nat) : ∀ (n : Nat) (x1 : Int32) (x2 : Int32) (x3 : Int32) (σ : Mem), JO G mX12_worked (d + 2) 8 [some (.ref (G.1 + off 1000)), some (.int x1), some (.int x2), some (.int x3)] [] σ rI (X12_worked_8 n x1 x2 x3 σ) := by
  intro n
  induction n with
  | zero =>
    intro x1 x2 x3 σ
    exact JO_none
  | succ n ih =>
    intro x1 x2 x3 σ
    rw [X12_worked_8]
    refine JO_iload_n (pc := 8) dX12_worked_8 rfl ?_
    refine JO_sipush (pc := 9) (a := 320) dX12_worked_9 (by decide) ?_
    refine JO_iload_n (pc := 12) dX12_worked_12 rfl ?_
    refine JO_imul (pc := 13) dX12_worked_13 ?_
    refine JO_aload_n (pc := 14) dX12_worked_14 rfl ?_
    refine JO_getR (pc := 15) fl_X12_36 rfl fkX12_many dX12_worked_15 ?_
    refine JO_iload_n (pc := 18) dX12_worked_18 rfl ?_
    refine JO_iald (pc := 19) akX12_many dX12_worked_19 ?_
    refine JO_iadd (pc := 20) dX12_worked_20 ?_
    refine JO_icmp_ge (pc := 21) (tgt := 164) dX12_worked_21 (by decide) ?_ ?_
    · refine JO_aload_n (pc := 164) dX12_worked_164 rfl ?_
      refine JO_getR (pc := 165) fl_X12_42 rfl fkX12_values dX12_worked_165 ?_
      refine JO_iconst (pc := 168) (a := 0) dX12_worked_168 (by decide) ?_
      refine JO_ialdc (pc := 169) (k := 0) akX12_values (by decide) (by decide) dX12_worked_169 ?_
      exact JO_reti (pc := 170) rfl dX12_worked_170
    · refine JO_aload_n (pc := 24) dX12_worked_24 rfl ?_
      refine JO_getR (pc := 25) fl_X12_30 rfl fkX12_step dX12_worked_25 ?_
      refine JO_iload_n (pc := 28) dX12_worked_28 rfl ?_
      refine JO_iald (pc := 29) akX12_step dX12_worked_29 ?_
      refine JO_if_eq (pc := 30) (tgt := 43) dX12_worked_30 (by decide) ?_ ?_
      · exact JO_sub (l_sub_some (l_sub_some (l_sub_some (l_sub_some (l_sub_nil))))) (w_X12_worked_43 G d _ (w_X12_worked_158 G d _ (ih)) x1 x2 x3 σ)
      · refine JO_aload_n (pc := 33) dX12_worked_33 rfl ?_
        refine JO_getR (pc := 34) fl_X12_30 rfl fkX12_step dX12_worked_34 ?_
        refine JO_iload_n (pc := 37) dX12_worked_37 rfl ?_
        refine JO_iald (pc := 38) akX12_step dX12_worked_38 ?_
        refine JO_iconst (pc := 39) (a := 1) dX12_worked_39 (by decide) ?_
        refine JO_icmp_ne (pc := 40) (tgt := 84) dX12_worked_40 (by decide) ?_ ?_
        · refine JO_aload_n (pc := 84) dX12_worked_84 rfl ?_
          refine JO_getR (pc := 85) fl_X12_30 rfl fkX12_step dX12_worked_85 ?_
          refine JO_iload_n (pc := 88) dX12_worked_88 rfl ?_
          refine JO_iald (pc := 89) akX12_step dX12_worked_89 ?_
          refine JO_iconst (pc := 90) (a := 2) dX12_worked_90 (by decide) ?_
          refine JO_icmp_ne (pc := 91) (tgt := 124) dX12_worked_91 (by decide) ?_ ?_
          · refine JO_inc (pc := 124) (b := (-1)) (L' := fun v3 => [some (.ref (G.1 + off 1000)), some (.int x1), some (.int v3), some (.int x3)]) dX12_worked_124 rfl rfl (by decide) rfl (fun _ => rfl) (fun v3 => ?_)
            refine JO_aload_n (pc := 127) dX12_worked_127 rfl ?_
            refine JO_getR (pc := 128) fl_X12_42 rfl fkX12_values dX12_worked_128 ?_
            refine JO_iload_n (pc := 131) dX12_worked_131 rfl ?_
            refine JO_iconst (pc := 132) (a := 1) dX12_worked_132 (by decide) ?_
            refine JO_isub (pc := 133) dX12_worked_133 ?_
            refine JO_aload_n (pc := 134) dX12_worked_134 rfl ?_
            refine JO_getR (pc := 135) fl_X12_33 rfl fkX12_arg dX12_worked_135 ?_
            refine JO_iload_n (pc := 138) dX12_worked_138 rfl ?_
            refine JO_iald (pc := 139) akX12_arg dX12_worked_139 ?_
            refine JO_aload_n (pc := 140) dX12_worked_140 rfl ?_
            refine JO_getR (pc := 141) fl_X12_42 rfl fkX12_values dX12_worked_141 ?_
            refine JO_iload_n (pc := 144) dX12_worked_144 rfl ?_
            refine JO_iconst (pc := 145) (a := 1) dX12_worked_145 (by decide) ?_
            refine JO_isub (pc := 146) dX12_worked_146 ?_
            refine JO_iald (pc := 147) akX12_values dX12_worked_147 ?_
            refine JO_aload_n (pc := 148) dX12_worked_148 rfl ?_
            refine JO_getR (pc := 149) fl_X12_42 rfl fkX12_values dX12_worked_149 ?_
            refine JO_iload_n (pc := 152) dX12_worked_152 rfl ?_
            refine JO_iald (pc := 153) akX12_values dX12_worked_153 ?_
            refine JO_callSi (pc := 154) [.int (σ.1 1007 x3.toNatClampNeg), .int (σ.1 1010 (v3 - 1).toNatClampNeg), .int (σ.1 1010 v3.toNatClampNeg)] lk_X12_347 rfl (w_X12_done G d (σ.1 1007 x3.toNatClampNeg) (σ.1 1010 (v3 - 1).toNatClampNeg) (σ.1 1010 v3.toNatClampNeg) σ) rfl rfl (Nat.le_of_ble_eq_true rfl) dX12_worked_154 (fun r4 => ?_)
            refine JO_iast (pc := 157) akX12_values dX12_worked_157 (fun σ5 => ?_)
            exact JO_sub (l_sub_some (l_sub_some (l_sub_some (l_sub_some (l_sub_nil))))) (w_X12_worked_158 G d _ (ih) x1 v3 x3 σ5)
          · refine JO_aload_n (pc := 94) dX12_worked_94 rfl ?_
            refine JO_getR (pc := 95) fl_X12_42 rfl fkX12_values dX12_worked_95 ?_
            refine JO_iload_n (pc := 98) dX12_worked_98 rfl ?_
            refine JO_iconst (pc := 99) (a := 1) dX12_worked_99 (by decide) ?_
            refine JO_isub (pc := 100) dX12_worked_100 ?_
            refine JO_aload_n (pc := 101) dX12_worked_101 rfl ?_
            refine JO_getR (pc := 102) fl_X12_42 rfl fkX12_values dX12_worked_102 ?_
            refine JO_iload_n (pc := 105) dX12_worked_105 rfl ?_
            refine JO_iconst (pc := 106) (a := 1) dX12_worked_106 (by decide) ?_
            refine JO_isub (pc := 107) dX12_worked_107 ?_
            refine JO_iald (pc := 108) akX12_values dX12_worked_108 ?_
            refine JO_if_ne (pc := 109) (tgt := 116) dX12_worked_109 (by decide) ?_ ?_
            · refine JO_iconst (pc := 116) (a := 0) dX12_worked_116 (by decide) ?_
              exact JO_sub (l_sub_some (l_sub_some (l_sub_some (l_sub_some (l_sub_nil))))) (w_X12_worked_117 G d _ (w_X12_worked_158 G d _ (ih)) x1 x2 x3 0 (x2 - 1) σ)
            · refine JO_iconst (pc := 112) (a := 1) dX12_worked_112 (by decide) ?_
              refine JO_goto (pc := 113) (tgt := 117) dX12_worked_113 (by decide) ?_
              exact JO_sub (l_sub_some (l_sub_some (l_sub_some (l_sub_some (l_sub_nil))))) (w_X12_worked_117 G d _ (w_X12_worked_158 G d _ (ih)) x1 x2 x3 1 (x2 - 1) σ)
        · exact JO_sub (l_sub_some (l_sub_some (l_sub_some (l_sub_some (l_sub_nil))))) (w_X12_worked_43 G d _ (w_X12_worked_158 G d _ (ih)) x1 x2 x3 σ)
set_option maxHeartbeats 4000000 in
set_option maxRecDepth 100000 in
theorem w_X12_worked (G : JG) (d : Nat) (x1 : Int32) (σ : Mem) : JS G mX12_worked (d + 2) [.ref (G.1 + off 1000), .int x1] σ rI (X12_worked x1 σ) := by
  refine JS_of 2 (by decide +kernel) (Nat.le_of_ble_eq_true rfl) (L := [some (.ref (G.1 + off 1000)), some (.int x1), none, none]) rfl ?_
  unfold X12_worked
  refine JO_iconst (pc := 0) (a := 0) dX12_worked_0 (by decide) ?_
  refine JO_nm (fun v1 => ?_)
  refine JO_istore_n (pc := 1) (L' := [some (.ref (G.1 + off 1000)), some (.int x1), some (.int v1), none]) dX12_worked_1 rfl rfl rfl ?_
  refine JO_sipush (pc := 2) (a := 320) dX12_worked_2 (by decide) ?_
  refine JO_iload_n (pc := 5) dX12_worked_5 rfl ?_
  refine JO_imul (pc := 6) dX12_worked_6 ?_
  refine JO_nm (fun v2 => ?_)
  refine JO_istore_n (pc := 7) (L' := [some (.ref (G.1 + off 1000)), some (.int x1), some (.int v1), some (.int v2)]) dX12_worked_7 rfl rfl rfl ?_
  exact JO_sub (l_sub_some (l_sub_some (l_sub_some (l_sub_some (l_sub_nil))))) (w_X12_worked_8 G d fu x1 v1 v2 σ)
set_option maxHeartbeats 4000000 in
set_option maxRecDepth 100000 in
theorem w_X12_readPerson_31 (G : JG) (d : Nat) : ∀ (σ : Mem), JO G mX12_readPerson (d + 5) 31 [some (.ref (G.1 + off 1000)), none] [] σ rV (X12_readPerson_31 σ) := by
  intro σ
  unfold X12_readPerson_31
  refine JO_aload_n (pc := 31) dX12_readPerson_31 rfl ?_
  refine JO_getI (pc := 32) fl_X12_212 rfl fkX12_fault dX12_readPerson_32 ?_
  refine JO_if_le (pc := 35) (tgt := 39) dX12_readPerson_35 (by decide) ?_ ?_
  · refine JO_aload_n (pc := 39) dX12_readPerson_39 rfl ?_
    refine JO_getI (pc := 40) fl_X12_287 rfl fkX12_nPeople dX12_readPerson_40 ?_
    refine JO_nm (fun v6 => ?_)
    refine JO_istore_n (pc := 43) (L' := [some (.ref (G.1 + off 1000)), some (.int v6)]) dX12_readPerson_43 rfl rfl rfl ?_
    refine JO_aload_n (pc := 44) dX12_readPerson_44 rfl ?_
    refine JO_getR (pc := 45) fl_X12_17 rfl fkX12_nName dX12_readPerson_45 ?_
    refine JO_iload_n (pc := 48) dX12_readPerson_48 rfl ?_
    refine JO_aload_n (pc := 49) dX12_readPerson_49 rfl ?_
    refine JO_getL (pc := 50) fl_X12_192 rfl fkX12_word dX12_readPerson_50 ?_
    refine JO_last (pc := 53) akX12_nName dX12_readPerson_53 (fun σ7 => ?_)
    refine JO_aload_n (pc := 54) dX12_readPerson_54 rfl ?_
    refine JO_callVv (pc := 55) [] lk_X12_272 rfl (ci := 12) rfl shX12 (w_X12_token G (d + 3)  σ7) rfl rfl (Nat.le_of_ble_eq_true rfl) dX12_readPerson_55 (fun σ8 => ?_)
    refine JO_aload_n (pc := 58) dX12_readPerson_58 rfl ?_
    refine JO_getR (pc := 59) fl_X12_48 rfl fkX12_nDoor dX12_readPerson_59 ?_
    refine JO_iload_n (pc := 62) dX12_readPerson_62 rfl ?_
    refine JO_aload_n (pc := 63) dX12_readPerson_63 rfl ?_
    refine JO_ldc2 (pc := 64) kc_X12_219 rfl dX12_readPerson_64 ?_
    refine JO_iconst (pc := 67) (a := 0) dX12_readPerson_67 (by decide) ?_
    refine JO_bipush (pc := 68) (a := 20) dX12_readPerson_68 (by decide) ?_
    refine JO_callVi (pc := 70) [.long 24948, .int 0, .int 20] lk_X12_283 rfl (ci := 12) rfl shX12 (w_X12_told G (d + 1) 24948 0 20 σ8) rfl rfl (Nat.le_of_ble_eq_true rfl) dX12_readPerson_70 (fun r9 => ?_)
    refine JO_iast (pc := 73) akX12_nDoor dX12_readPerson_73 (fun σ10 => ?_)
    refine JO_aload_n (pc := 74) dX12_readPerson_74 rfl ?_
    refine JO_getR (pc := 75) fl_X12_51 rfl fkX12_nFrom dX12_readPerson_75 ?_
    refine JO_iload_n (pc := 78) dX12_readPerson_78 rfl ?_
    refine JO_aload_n (pc := 79) dX12_readPerson_79 rfl ?_
    refine JO_ldc2 (pc := 80) kc_X12_221 rfl dX12_readPerson_80 ?_
    refine JO_iconst (pc := 83) (a := 0) dX12_readPerson_83 (by decide) ?_
    refine JO_aload_n (pc := 84) dX12_readPerson_84 rfl ?_
    refine JO_getI (pc := 85) fl_X12_357 rfl fkX12_nDay dX12_readPerson_85 ?_
    refine JO_iconst (pc := 88) (a := 1) dX12_readPerson_88 (by decide) ?_
    refine JO_isub (pc := 89) dX12_readPerson_89 ?_
    refine JO_callVi (pc := 90) [.long 1869636974, .int 0, .int ((σ10.1 1000 44) - 1)] lk_X12_283 rfl (ci := 12) rfl shX12 (w_X12_told G (d + 1) 1869636974 0 ((σ10.1 1000 44) - 1) σ10) rfl rfl (Nat.le_of_ble_eq_true rfl) dX12_readPerson_90 (fun r11 => ?_)
    refine JO_iast (pc := 93) akX12_nFrom dX12_readPerson_93 (fun σ12 => ?_)
    refine JO_aload_n (pc := 94) dX12_readPerson_94 rfl ?_
    refine JO_getR (pc := 95) fl_X12_54 rfl fkX12_nUntil dX12_readPerson_95 ?_
    refine JO_iload_n (pc := 98) dX12_readPerson_98 rfl ?_
    refine JO_aload_n (pc := 99) dX12_readPerson_99 rfl ?_
    refine JO_ldc2 (pc := 100) kc_X12_223 rfl dX12_readPerson_100 ?_
    refine JO_aload_n (pc := 103) dX12_readPerson_103 rfl ?_
    refine JO_getR (pc := 104) fl_X12_51 rfl fkX12_nFrom dX12_readPerson_104 ?_
    refine JO_iload_n (pc := 107) dX12_readPerson_107 rfl ?_
    refine JO_iald (pc := 108) akX12_nFrom dX12_readPerson_108 ?_
    refine JO_iconst (pc := 109) (a := 1) dX12_readPerson_109 (by decide) ?_
    refine JO_iadd (pc := 110) dX12_readPerson_110 ?_
    refine JO_aload_n (pc := 111) dX12_readPerson_111 rfl ?_
    refine JO_getI (pc := 112) fl_X12_357 rfl fkX12_nDay dX12_readPerson_112 ?_
    refine JO_callVi (pc := 115) [.long 29807, .int ((σ12.1 1013 v6.toNatClampNeg) + 1), .int (σ12.1 1000 44)] lk_X12_283 rfl (ci := 12) rfl shX12 (w_X12_told G (d + 1) 29807 ((σ12.1 1013 v6.toNatClampNeg) + 1) (σ12.1 1000 44) σ12) rfl rfl (Nat.le_of_ble_eq_true rfl) dX12_readPerson_115 (fun r13 => ?_)
    refine JO_iast (pc := 118) akX12_nUntil dX12_readPerson_118 (fun σ14 => ?_)
    refine JO_aload_n (pc := 119) dX12_readPerson_119 rfl ?_
    refine JO_getR (pc := 120) fl_X12_57 rfl fkX12_nChairs dX12_readPerson_120 ?_
    refine JO_iload_n (pc := 123) dX12_readPerson_123 rfl ?_
    refine JO_aload_n (pc := 124) dX12_readPerson_124 rfl ?_
    refine JO_ldc2 (pc := 125) kc_X12_225 rfl dX12_readPerson_125 ?_
    refine JO_bipush (pc := 128) (a := 9) dX12_readPerson_128 (by decide) ?_
    refine JO_callVi (pc := 130) [.long 109299962049139, .int 9] lk_X12_360 rfl (ci := 12) rfl shX12 (w_X12_option G d 109299962049139 9 σ14) rfl rfl (Nat.le_of_ble_eq_true rfl) dX12_readPerson_130 (fun r15 => ?_)
    refine JO_iast (pc := 133) akX12_nChairs dX12_readPerson_133 (fun σ16 => ?_)
    refine JO_aload_n (pc := 134) dX12_readPerson_134 rfl ?_
    refine JO_getR (pc := 135) fl_X12_60 rfl fkX12_nRest dX12_readPerson_135 ?_
    refine JO_iload_n (pc := 138) dX12_readPerson_138 rfl ?_
    refine JO_aload_n (pc := 139) dX12_readPerson_139 rfl ?_
    refine JO_ldc2 (pc := 140) kc_X12_227 rfl dX12_readPerson_140 ?_
    refine JO_aload_n (pc := 143) dX12_readPerson_143 rfl ?_
    refine JO_getI (pc := 144) fl_X12_357 rfl fkX12_nDay dX12_readPerson_144 ?_
    refine JO_iconst (pc := 147) (a := 1) dX12_readPerson_147 (by decide) ?_
    refine JO_isub (pc := 148) dX12_readPerson_148 ?_
    refine JO_callVi (pc := 149) [.long 1919251316, .int ((σ16.1 1000 44) - 1)] lk_X12_360 rfl (ci := 12) rfl shX12 (w_X12_option G d 1919251316 ((σ16.1 1000 44) - 1) σ16) rfl rfl (Nat.le_of_ble_eq_true rfl) dX12_readPerson_149 (fun r17 => ?_)
    refine JO_iast (pc := 152) akX12_nRest dX12_readPerson_152 (fun σ18 => ?_)
    refine JO_aload_n (pc := 153) dX12_readPerson_153 rfl ?_
    refine JO_getR (pc := 154) fl_X12_63 rfl fkX12_nPrice dX12_readPerson_154 ?_
    refine JO_iload_n (pc := 157) dX12_readPerson_157 rfl ?_
    refine JO_aload_n (pc := 158) dX12_readPerson_158 rfl ?_
    refine JO_ldc2 (pc := 159) kc_X12_229 rfl dX12_readPerson_159 ?_
    refine JO_bipush (pc := 162) (a := 99) dX12_readPerson_162 (by decide) ?_
    refine JO_callVi (pc := 164) [.long 482955846501, .int 99] lk_X12_360 rfl (ci := 12) rfl shX12 (w_X12_option G d 482955846501 99 σ18) rfl rfl (Nat.le_of_ble_eq_true rfl) dX12_readPerson_164 (fun r19 => ?_)
    refine JO_iast (pc := 167) akX12_nPrice dX12_readPerson_167 (fun σ20 => ?_)
    refine JO_aload_n (pc := 168) dX12_readPerson_168 rfl ?_
    refine JO_getR (pc := 169) fl_X12_66 rfl fkX12_nCoin dX12_readPerson_169 ?_
    refine JO_iload_n (pc := 172) dX12_readPerson_172 rfl ?_
    refine JO_aload_n (pc := 173) dX12_readPerson_173 rfl ?_
    refine JO_ldc2 (pc := 174) kc_X12_231 rfl dX12_readPerson_174 ?_
    refine JO_sipush (pc := 177) (a := 999) dX12_readPerson_177 (by decide) ?_
    refine JO_callVi (pc := 180) [.long 1668245870, .int 999] lk_X12_360 rfl (ci := 12) rfl shX12 (w_X12_option G d 1668245870 999 σ20) rfl rfl (Nat.le_of_ble_eq_true rfl) dX12_readPerson_180 (fun r21 => ?_)
    refine JO_iast (pc := 183) akX12_nCoin dX12_readPerson_183 (fun σ22 => ?_)
    refine JO_aload_n (pc := 184) dX12_readPerson_184 rfl ?_
    refine JO_getI (pc := 185) fl_X12_212 rfl fkX12_fault dX12_readPerson_185 ?_
    refine JO_if_ne (pc := 188) (tgt := 201) dX12_readPerson_188 (by decide) ?_ ?_
    · exact JO_retv (pc := 201) rfl dX12_readPerson_201
    · refine JO_aload_n (pc := 191) dX12_readPerson_191 rfl ?_
      refine JO_dup (pc := 192) dX12_readPerson_192 rfl ?_
      refine JO_getI (pc := 193) fl_X12_287 rfl fkX12_nPeople dX12_readPerson_193 ?_
      refine JO_iconst (pc := 196) (a := 1) dX12_readPerson_196 (by decide) ?_
      refine JO_iadd (pc := 197) dX12_readPerson_197 ?_
      refine JO_putI (pc := 198) fl_X12_287 rfl fkX12_nPeople dX12_readPerson_198 (fun σ23 => ?_)
      exact JO_retv (pc := 201) rfl dX12_readPerson_201
  · exact JO_retv (pc := 38) rfl dX12_readPerson_38
set_option maxHeartbeats 4000000 in
set_option maxRecDepth 100000 in
theorem w_X12_readPerson (G : JG) (d : Nat) (σ : Mem) : JS G mX12_readPerson (d + 5) [.ref (G.1 + off 1000)] σ rV (X12_readPerson σ) := by
  refine JS_of 1 (by decide +kernel) (Nat.le_of_ble_eq_true rfl) (L := [some (.ref (G.1 + off 1000)), none]) rfl ?_
  unfold X12_readPerson
  refine JO_aload_n (pc := 0) dX12_readPerson_0 rfl ?_
  refine JO_callVv (pc := 1) [] lk_X12_272 rfl (ci := 12) rfl shX12 (w_X12_token G (d + 3)  σ) rfl rfl (Nat.le_of_ble_eq_true rfl) dX12_readPerson_1 (fun σ1 => ?_)
  refine JO_aload_n (pc := 4) dX12_readPerson_4 rfl ?_
  refine JO_callVi (pc := 5) [] lk_X12_351 rfl (ci := 12) rfl shX12 (w_X12_isName G (d + 3)  σ1) rfl rfl (Nat.le_of_ble_eq_true rfl) dX12_readPerson_5 (fun r2 => ?_)
  refine JO_if_ne (pc := 8) (tgt := 19) dX12_readPerson_8 (by decide) ?_ ?_
  · refine JO_aload_n (pc := 19) dX12_readPerson_19 rfl ?_
    refine JO_callVi (pc := 20) [] lk_X12_354 rfl (ci := 12) rfl shX12 (w_X12_find G (d + 4)  r2.2) rfl rfl (Nat.le_of_ble_eq_true rfl) dX12_readPerson_20 (fun r3 => ?_)
    refine JO_if_lt (pc := 23) (tgt := 31) dX12_readPerson_23 (by decide) ?_ ?_
    · exact JO_sub (l_sub_some (l_sub_none (l_sub_nil))) (w_X12_readPerson_31 G d  r3.2)
    · refine JO_aload_n (pc := 26) dX12_readPerson_26 rfl ?_
      refine JO_iconst (pc := 27) (a := 3) dX12_readPerson_27 (by decide) ?_
      refine JO_callVv (pc := 28) [.int 3] lk_X12_269 rfl (ci := 12) rfl shX12 (w_X12_wrong G (d + 4) 3 r3.2) rfl rfl (Nat.le_of_ble_eq_true rfl) dX12_readPerson_28 (fun σ4 => ?_)
      exact JO_sub (l_sub_some (l_sub_none (l_sub_nil))) (w_X12_readPerson_31 G d  σ4)
  · refine JO_aload_n (pc := 11) dX12_readPerson_11 rfl ?_
    refine JO_iconst (pc := 12) (a := 2) dX12_readPerson_12 (by decide) ?_
    refine JO_callVv (pc := 13) [.int 2] lk_X12_269 rfl (ci := 12) rfl shX12 (w_X12_wrong G (d + 4) 2 r2.2) rfl rfl (Nat.le_of_ble_eq_true rfl) dX12_readPerson_13 (fun σ5 => ?_)
    refine JO_goto (pc := 16) (tgt := 31) dX12_readPerson_16 (by decide) ?_
    exact JO_sub (l_sub_some (l_sub_none (l_sub_nil))) (w_X12_readPerson_31 G d  σ5)
set_option maxHeartbeats 4000000 in
set_option maxRecDepth 100000 in
theorem w_X12_old_36 (G : JG) (d : Nat) : ∀ (σ : Mem), JO G mX12_old (d + 2) 36 [some (.ref (G.1 + off 1000))] [] σ rI (X12_old_36 σ) := by
  intro σ
  unfold X12_old_36
  refine JO_aload_n (pc := 36) dX12_old_36 rfl ?_
  refine JO_getI (pc := 37) fl_X12_212 rfl fkX12_fault dX12_old_37 ?_
  refine JO_if_le (pc := 40) (tgt := 47) dX12_old_40 (by decide) ?_ ?_
  · refine JO_aload_n (pc := 47) dX12_old_47 rfl ?_
    refine JO_callVi (pc := 48) [] lk_X12_354 rfl (ci := 12) rfl shX12 (w_X12_find G (d + 1)  σ) rfl rfl (Nat.le_of_ble_eq_true rfl) dX12_old_48 (fun r5 => ?_)
    exact JO_reti (pc := 51) rfl dX12_old_51
  · refine JO_iconst (pc := 43) (a := 0) dX12_old_43 (by decide) ?_
    refine JO_goto (pc := 44) (tgt := 51) dX12_old_44 (by decide) ?_
    exact JO_reti (pc := 51) rfl dX12_old_51
set_option maxHeartbeats 4000000 in
set_option maxRecDepth 100000 in
theorem w_X12_old (G : JG) (d : Nat) (σ : Mem) : JS G mX12_old (d + 2) [.ref (G.1 + off 1000)] σ rI (X12_old σ) := by
  refine JS_of 0 (by decide +kernel) (Nat.le_of_ble_eq_true rfl) (L := [some (.ref (G.1 + off 1000))]) rfl ?_
  unfold X12_old
  refine JO_aload_n (pc := 0) dX12_old_0 rfl ?_
  refine JO_getI (pc := 1) fl_X12_212 rfl fkX12_fault dX12_old_1 ?_
  refine JO_if_le (pc := 4) (tgt := 9) dX12_old_4 (by decide) ?_ ?_
  · refine JO_aload_n (pc := 9) dX12_old_9 rfl ?_
    refine JO_callVi (pc := 10) [] lk_X12_351 rfl (ci := 12) rfl shX12 (w_X12_isName G d  σ) rfl rfl (Nat.le_of_ble_eq_true rfl) dX12_old_10 (fun r1 => ?_)
    refine JO_if_ne (pc := 13) (tgt := 24) dX12_old_13 (by decide) ?_ ?_
    · refine JO_aload_n (pc := 24) dX12_old_24 rfl ?_
      refine JO_callVi (pc := 25) [] lk_X12_354 rfl (ci := 12) rfl shX12 (w_X12_find G (d + 1)  r1.2) rfl rfl (Nat.le_of_ble_eq_true rfl) dX12_old_25 (fun r2 => ?_)
      refine JO_if_ge (pc := 28) (tgt := 36) dX12_old_28 (by decide) ?_ ?_
      · exact JO_sub (l_sub_some (l_sub_nil)) (w_X12_old_36 G d  r2.2)
      · refine JO_aload_n (pc := 31) dX12_old_31 rfl ?_
        refine JO_iconst (pc := 32) (a := 5) dX12_old_32 (by decide) ?_
        refine JO_callVv (pc := 33) [.int 5] lk_X12_269 rfl (ci := 12) rfl shX12 (w_X12_wrong G (d + 1) 5 r2.2) rfl rfl (Nat.le_of_ble_eq_true rfl) dX12_old_33 (fun σ3 => ?_)
        exact JO_sub (l_sub_some (l_sub_nil)) (w_X12_old_36 G d  σ3)
    · refine JO_aload_n (pc := 16) dX12_old_16 rfl ?_
      refine JO_iconst (pc := 17) (a := 2) dX12_old_17 (by decide) ?_
      refine JO_callVv (pc := 18) [.int 2] lk_X12_269 rfl (ci := 12) rfl shX12 (w_X12_wrong G (d + 1) 2 r1.2) rfl rfl (Nat.le_of_ble_eq_true rfl) dX12_old_18 (fun σ4 => ?_)
      refine JO_goto (pc := 21) (tgt := 36) dX12_old_21 (by decide) ?_
      exact JO_sub (l_sub_some (l_sub_nil)) (w_X12_old_36 G d  σ4)
  · refine JO_iconst (pc := 7) (a := 0) dX12_old_7 (by decide) ?_
    exact JO_reti (pc := 8) rfl dX12_old_8
set_option maxHeartbeats 4000000 in
set_option maxRecDepth 100000 in
theorem w_X12_readDebt_58 (G : JG) (d : Nat) (k63 : Int32 → Int32 → Mem → Option Mem) (hk63 : ∀ (x1 : Int32) (x2 : Int32) (σ : Mem), JO G mX12_readDebt (d + 3) 63 [some (.ref (G.1 + off 1000)), some (.int x1), some (.int x2), none] [] σ rV (k63 x1 x2 σ)) : ∀ (x1 : Int32) (x2 : Int32) (σ : Mem), JO G mX12_readDebt (d + 3) 58 [some (.ref (G.1 + off 1000)), some (.int x1), some (.int x2), none] [] σ rV (X12_readDebt_58 k63 x1 x2 σ) := by
  intro x1 x2 σ
  unfold X12_readDebt_58
  refine JO_aload_n (pc := 58) dX12_readDebt_58 rfl ?_
  refine JO_iconst (pc := 59) (a := 3) dX12_readDebt_59 (by decide) ?_
  refine JO_callVv (pc := 60) [.int 3] lk_X12_269 rfl (ci := 12) rfl shX12 (w_X12_wrong G (d + 2) 3 σ) rfl rfl (Nat.le_of_ble_eq_true rfl) dX12_readDebt_60 (fun σ9 => ?_)
  exact JO_sub (l_sub_some (l_sub_some (l_sub_some (l_sub_none (l_sub_nil))))) (hk63 x1 x2 σ9)
set_option maxHeartbeats 4000000 in
set_option maxRecDepth 100000 in
theorem w_X12_readDebt_74 (G : JG) (d : Nat) : ∀ (x1 : Int32) (x2 : Int32) (σ : Mem), JO G mX12_readDebt (d + 3) 74 [some (.ref (G.1 + off 1000)), some (.int x1), some (.int x2), none] [] σ rV (X12_readDebt_74 x1 x2 σ) := by
  intro x1 x2 σ
  unfold X12_readDebt_74
  refine JO_aload_n (pc := 74) dX12_readDebt_74 rfl ?_
  refine JO_iconst (pc := 75) (a := 1) dX12_readDebt_75 (by decide) ?_
  refine JO_sipush (pc := 76) (a := 9999) dX12_readDebt_76 (by decide) ?_
  refine JO_callVi (pc := 79) [.int 1, .int 9999] lk_X12_279 rfl (ci := 12) rfl shX12 (w_X12_toldNumber G d 1 9999 σ) rfl rfl (Nat.le_of_ble_eq_true rfl) dX12_readDebt_79 (fun r10 => ?_)
  refine JO_nm (fun v11 => ?_)
  refine JO_istore_n (pc := 82) (L' := [some (.ref (G.1 + off 1000)), some (.int x1), some (.int x2), some (.int v11)]) dX12_readDebt_82 rfl rfl rfl ?_
  refine JO_aload_n (pc := 83) dX12_readDebt_83 rfl ?_
  refine JO_getI (pc := 84) fl_X12_212 rfl fkX12_fault dX12_readDebt_84 ?_
  refine JO_if_le (pc := 87) (tgt := 91) dX12_readDebt_87 (by decide) ?_ ?_
  · refine JO_aload_n (pc := 91) dX12_readDebt_91 rfl ?_
    refine JO_getR (pc := 92) fl_X12_69 rfl fkX12_nOwed dX12_readDebt_92 ?_
    refine JO_bipush (pc := 95) (a := 6) dX12_readDebt_95 (by decide) ?_
    refine JO_iload_n (pc := 97) dX12_readDebt_97 rfl ?_
    refine JO_imul (pc := 98) dX12_readDebt_98 ?_
    refine JO_iload_n (pc := 99) dX12_readDebt_99 rfl ?_
    refine JO_iadd (pc := 100) dX12_readDebt_100 ?_
    refine JO_iload_n (pc := 101) dX12_readDebt_101 rfl ?_
    refine JO_iast (pc := 102) akX12_nOwed dX12_readDebt_102 (fun σ12 => ?_)
    refine JO_aload_n (pc := 103) dX12_readDebt_103 rfl ?_
    refine JO_dup (pc := 104) dX12_readDebt_104 rfl ?_
    refine JO_getI (pc := 105) fl_X12_367 rfl fkX12_nDebts dX12_readDebt_105 ?_
    refine JO_iconst (pc := 108) (a := 1) dX12_readDebt_108 (by decide) ?_
    refine JO_iadd (pc := 109) dX12_readDebt_109 ?_
    refine JO_putI (pc := 110) fl_X12_367 rfl fkX12_nDebts dX12_readDebt_110 (fun σ13 => ?_)
    exact JO_retv (pc := 113) rfl dX12_readDebt_113
  · exact JO_retv (pc := 90) rfl dX12_readDebt_90
set_option maxHeartbeats 4000000 in
set_option maxRecDepth 100000 in
theorem w_X12_readDebt_63 (G : JG) (d : Nat) : ∀ (x1 : Int32) (x2 : Int32) (σ : Mem), JO G mX12_readDebt (d + 3) 63 [some (.ref (G.1 + off 1000)), some (.int x1), some (.int x2), none] [] σ rV (X12_readDebt_63 x1 x2 σ) := by
  intro x1 x2 σ
  unfold X12_readDebt_63
  refine JO_aload_n (pc := 63) dX12_readDebt_63 rfl ?_
  refine JO_getI (pc := 64) fl_X12_212 rfl fkX12_fault dX12_readDebt_64 ?_
  refine JO_if_ne (pc := 67) (tgt := 74) dX12_readDebt_67 (by decide) ?_ ?_
  · exact JO_sub (l_sub_some (l_sub_some (l_sub_some (l_sub_none (l_sub_nil))))) (w_X12_readDebt_74 G d x1 x2 σ)
  · refine JO_aload_n (pc := 70) dX12_readDebt_70 rfl ?_
    refine JO_callVv (pc := 71) [] lk_X12_272 rfl (ci := 12) rfl shX12 (w_X12_token G (d + 1)  σ) rfl rfl (Nat.le_of_ble_eq_true rfl) dX12_readDebt_71 (fun σ8 => ?_)
    exact JO_sub (l_sub_some (l_sub_some (l_sub_some (l_sub_none (l_sub_nil))))) (w_X12_readDebt_74 G d x1 x2 σ8)
set_option maxHeartbeats 4000000 in
set_option maxRecDepth 100000 in
theorem w_X12_readDebt_20 (G : JG) (d : Nat) : ∀ (x1 : Int32) (σ : Mem), JO G mX12_readDebt (d + 3) 20 [some (.ref (G.1 + off 1000)), some (.int x1), none, none] [] σ rV (X12_readDebt_20 x1 σ) := by
  intro x1 σ
  unfold X12_readDebt_20
  refine JO_aload_n (pc := 20) dX12_readDebt_20 rfl ?_
  refine JO_ldc2 (pc := 21) kc_X12_223 rfl dX12_readDebt_21 ?_
  refine JO_callVv (pc := 24) [.long 29807] lk_X12_275 rfl (ci := 12) rfl shX12 (w_X12_want G d 29807 σ) rfl rfl (Nat.le_of_ble_eq_true rfl) dX12_readDebt_24 (fun σ5 => ?_)
  refine JO_aload_n (pc := 27) dX12_readDebt_27 rfl ?_
  refine JO_callVi (pc := 28) [] lk_X12_364 rfl (ci := 12) rfl shX12 (w_X12_old G d  σ5) rfl rfl (Nat.le_of_ble_eq_true rfl) dX12_readDebt_28 (fun r6 => ?_)
  refine JO_nm (fun v7 => ?_)
  refine JO_istore_n (pc := 31) (L' := [some (.ref (G.1 + off 1000)), some (.int x1), some (.int v7), none]) dX12_readDebt_31 rfl rfl rfl ?_
  refine JO_aload_n (pc := 32) dX12_readDebt_32 rfl ?_
  refine JO_getI (pc := 33) fl_X12_212 rfl fkX12_fault dX12_readDebt_33 ?_
  refine JO_if_ne (pc := 36) (tgt := 63) dX12_readDebt_36 (by decide) ?_ ?_
  · exact JO_sub (l_sub_some (l_sub_some (l_sub_some (l_sub_none (l_sub_nil))))) (w_X12_readDebt_63 G d x1 v7 r6.2)
  · refine JO_iload_n (pc := 39) dX12_readDebt_39 rfl ?_
    refine JO_iload_n (pc := 40) dX12_readDebt_40 rfl ?_
    refine JO_icmp_eq (pc := 41) (tgt := 58) dX12_readDebt_41 (by decide) ?_ ?_
    · exact JO_sub (l_sub_some (l_sub_some (l_sub_some (l_sub_none (l_sub_nil))))) (w_X12_readDebt_58 G d _ (w_X12_readDebt_63 G d) x1 v7 r6.2)
    · refine JO_aload_n (pc := 44) dX12_readDebt_44 rfl ?_
      refine JO_getR (pc := 45) fl_X12_69 rfl fkX12_nOwed dX12_readDebt_45 ?_
      refine JO_bipush (pc := 48) (a := 6) dX12_readDebt_48 (by decide) ?_
      refine JO_iload_n (pc := 50) dX12_readDebt_50 rfl ?_
      refine JO_imul (pc := 51) dX12_readDebt_51 ?_
      refine JO_iload_n (pc := 52) dX12_readDebt_52 rfl ?_
      refine JO_iadd (pc := 53) dX12_readDebt_53 ?_
      refine JO_iald (pc := 54) akX12_nOwed dX12_readDebt_54 ?_
      refine JO_if_le (pc := 55) (tgt := 63) dX12_readDebt_55 (by decide) ?_ ?_
      · exact JO_sub (l_sub_some (l_sub_some (l_sub_some (l_sub_none (l_sub_nil))))) (w_X12_readDebt_63 G d x1 v7 r6.2)
      · exact JO_sub (l_sub_some (l_sub_some (l_sub_some (l_sub_none (l_sub_nil))))) (w_X12_readDebt_58 G d _ (w_X12_readDebt_63 G d) x1 v7 r6.2)
set_option maxHeartbeats 4000000 in
set_option maxRecDepth 100000 in
theorem w_X12_readDebt (G : JG) (d : Nat) (σ : Mem) : JS G mX12_readDebt (d + 3) [.ref (G.1 + off 1000)] σ rV (X12_readDebt σ) := by
  refine JS_of 3 (by decide +kernel) (Nat.le_of_ble_eq_true rfl) (L := [some (.ref (G.1 + off 1000)), none, none, none]) rfl ?_
  unfold X12_readDebt
  refine JO_aload_n (pc := 0) dX12_readDebt_0 rfl ?_
  refine JO_callVv (pc := 1) [] lk_X12_272 rfl (ci := 12) rfl shX12 (w_X12_token G (d + 1)  σ) rfl rfl (Nat.le_of_ble_eq_true rfl) dX12_readDebt_1 (fun σ1 => ?_)
  refine JO_aload_n (pc := 4) dX12_readDebt_4 rfl ?_
  refine JO_callVi (pc := 5) [] lk_X12_364 rfl (ci := 12) rfl shX12 (w_X12_old G d  σ1) rfl rfl (Nat.le_of_ble_eq_true rfl) dX12_readDebt_5 (fun r2 => ?_)
  refine JO_nm (fun v3 => ?_)
  refine JO_istore_n (pc := 8) (L' := [some (.ref (G.1 + off 1000)), some (.int v3), none, none]) dX12_readDebt_8 rfl rfl rfl ?_
  refine JO_aload_n (pc := 9) dX12_readDebt_9 rfl ?_
  refine JO_getI (pc := 10) fl_X12_212 rfl fkX12_fault dX12_readDebt_10 ?_
  refine JO_if_ne (pc := 13) (tgt := 20) dX12_readDebt_13 (by decide) ?_ ?_
  · exact JO_sub (l_sub_some (l_sub_some (l_sub_none (l_sub_none (l_sub_nil))))) (w_X12_readDebt_20 G d v3 r2.2)
  · refine JO_aload_n (pc := 16) dX12_readDebt_16 rfl ?_
    refine JO_callVv (pc := 17) [] lk_X12_272 rfl (ci := 12) rfl shX12 (w_X12_token G (d + 1)  r2.2) rfl rfl (Nat.le_of_ble_eq_true rfl) dX12_readDebt_17 (fun σ4 => ?_)
    exact JO_sub (l_sub_some (l_sub_some (l_sub_none (l_sub_none (l_sub_nil))))) (w_X12_readDebt_20 G d v3 σ4)
set_option maxHeartbeats 4000000 in
set_option maxRecDepth 100000 in
theorem w_X12_readLine_188 (G : JG) (d : Nat) (k193 : Mem → Option Mem) (hk193 : ∀ (σ : Mem), JO G mX12_readLine (d + 6) 193 [some (.ref (G.1 + off 1000))] [] σ rV (k193 σ)) : ∀ (σ : Mem), JO G mX12_readLine (d + 6) 188 [some (.ref (G.1 + off 1000))] [] σ rV (X12_readLine_188 k193 σ) := by
  intro σ
  unfold X12_readLine_188
  refine JO_aload_n (pc := 188) dX12_readLine_188 rfl ?_
  refine JO_iconst (pc := 189) (a := 2) dX12_readLine_189 (by decide) ?_
  refine JO_callVv (pc := 190) [.int 2] lk_X12_269 rfl (ci := 12) rfl shX12 (w_X12_wrong G (d + 5) 2 σ) rfl rfl (Nat.le_of_ble_eq_true rfl) dX12_readLine_190 (fun σ21 => ?_)
  exact JO_sub (l_sub_some (l_sub_nil)) (hk193  σ21)
set_option maxHeartbeats 4000000 in
set_option maxRecDepth 100000 in
theorem w_X12_readLine_158 (G : JG) (d : Nat) (k193 : Mem → Option Mem) (hk193 : ∀ (σ : Mem), JO G mX12_readLine (d + 6) 193 [some (.ref (G.1 + off 1000))] [] σ rV (k193 σ)) : ∀ (σ : Mem), JO G mX12_readLine (d + 6) 158 [some (.ref (G.1 + off 1000))] [] σ rV (X12_readLine_158 k193 σ) := by
  intro σ
  unfold X12_readLine_158
  refine JO_aload_n (pc := 158) dX12_readLine_158 rfl ?_
  refine JO_ldc2 (pc := 159) kc_X12_239 rfl dX12_readLine_159 ?_
  refine JO_callVi (pc := 162) [.long 1918986606] lk_X12_265 rfl (ci := 12) rfl shX12 (w_X12_isWord G (d + 5) 1918986606 σ) rfl rfl (Nat.le_of_ble_eq_true rfl) dX12_readLine_162 (fun r18 => ?_)
  refine JO_if_eq (pc := 165) (tgt := 188) dX12_readLine_165 (by decide) ?_ ?_
  · exact JO_sub (l_sub_some (l_sub_nil)) (w_X12_readLine_188 G d _ (hk193)  r18.2)
  · refine JO_aload_n (pc := 168) dX12_readLine_168 rfl ?_
    refine JO_getI (pc := 169) fl_X12_392 rfl fkX12_nHasRain dX12_readLine_169 ?_
    refine JO_if_ne (pc := 172) (tgt := 188) dX12_readLine_172 (by decide) ?_ ?_
    · exact JO_sub (l_sub_some (l_sub_nil)) (w_X12_readLine_188 G d _ (hk193)  r18.2)
    · refine JO_aload_n (pc := 175) dX12_readLine_175 rfl ?_
      refine JO_iconst (pc := 176) (a := 1) dX12_readLine_176 (by decide) ?_
      refine JO_putZc (pc := 177) fl_X12_392 rfl (by decide) fkX12_nHasRain dX12_readLine_177 (fun σ19 => ?_)
      refine JO_aload_n (pc := 180) dX12_readLine_180 rfl ?_
      refine JO_iconst (pc := 181) (a := 2) dX12_readLine_181 (by decide) ?_
      refine JO_callVv (pc := 182) [.int 2] lk_X12_386 rfl (ci := 12) rfl shX12 (w_X12_formula G (d + 1) 2 σ19) rfl rfl (Nat.le_of_ble_eq_true rfl) dX12_readLine_182 (fun σ20 => ?_)
      refine JO_goto (pc := 185) (tgt := 193) dX12_readLine_185 (by decide) ?_
      exact JO_sub (l_sub_some (l_sub_nil)) (hk193  σ20)
set_option maxHeartbeats 4000000 in
set_option maxRecDepth 100000 in
theorem w_X12_readLine_128 (G : JG) (d : Nat) (k193 : Mem → Option Mem) (hk193 : ∀ (σ : Mem), JO G mX12_readLine (d + 6) 193 [some (.ref (G.1 + off 1000))] [] σ rV (k193 σ)) : ∀ (σ : Mem), JO G mX12_readLine (d + 6) 128 [some (.ref (G.1 + off 1000))] [] σ rV (X12_readLine_128 k193 σ) := by
  intro σ
  unfold X12_readLine_128
  refine JO_aload_n (pc := 128) dX12_readLine_128 rfl ?_
  refine JO_ldc2 (pc := 129) kc_X12_237 rfl dX12_readLine_129 ?_
  refine JO_callVi (pc := 132) [.long 7597137600480375668] lk_X12_265 rfl (ci := 12) rfl shX12 (w_X12_isWord G (d + 5) 7597137600480375668 σ) rfl rfl (Nat.le_of_ble_eq_true rfl) dX12_readLine_132 (fun r15 => ?_)
  refine JO_if_eq (pc := 135) (tgt := 158) dX12_readLine_135 (by decide) ?_ ?_
  · exact JO_sub (l_sub_some (l_sub_nil)) (w_X12_readLine_158 G d _ (hk193)  r15.2)
  · refine JO_aload_n (pc := 138) dX12_readLine_138 rfl ?_
    refine JO_getI (pc := 139) fl_X12_389 rfl fkX12_nHasInterest dX12_readLine_139 ?_
    refine JO_if_ne (pc := 142) (tgt := 158) dX12_readLine_142 (by decide) ?_ ?_
    · exact JO_sub (l_sub_some (l_sub_nil)) (w_X12_readLine_158 G d _ (hk193)  r15.2)
    · refine JO_aload_n (pc := 145) dX12_readLine_145 rfl ?_
      refine JO_iconst (pc := 146) (a := 1) dX12_readLine_146 (by decide) ?_
      refine JO_putZc (pc := 147) fl_X12_389 rfl (by decide) fkX12_nHasInterest dX12_readLine_147 (fun σ16 => ?_)
      refine JO_aload_n (pc := 150) dX12_readLine_150 rfl ?_
      refine JO_iconst (pc := 151) (a := 1) dX12_readLine_151 (by decide) ?_
      refine JO_callVv (pc := 152) [.int 1] lk_X12_386 rfl (ci := 12) rfl shX12 (w_X12_formula G (d + 1) 1 σ16) rfl rfl (Nat.le_of_ble_eq_true rfl) dX12_readLine_152 (fun σ17 => ?_)
      refine JO_goto (pc := 155) (tgt := 193) dX12_readLine_155 (by decide) ?_
      exact JO_sub (l_sub_some (l_sub_nil)) (hk193  σ17)
set_option maxHeartbeats 4000000 in
set_option maxRecDepth 100000 in
theorem w_X12_readLine_98 (G : JG) (d : Nat) (k193 : Mem → Option Mem) (hk193 : ∀ (σ : Mem), JO G mX12_readLine (d + 6) 193 [some (.ref (G.1 + off 1000))] [] σ rV (k193 σ)) : ∀ (σ : Mem), JO G mX12_readLine (d + 6) 98 [some (.ref (G.1 + off 1000))] [] σ rV (X12_readLine_98 k193 σ) := by
  intro σ
  unfold X12_readLine_98
  refine JO_aload_n (pc := 98) dX12_readLine_98 rfl ?_
  refine JO_ldc2 (pc := 99) kc_X12_235 rfl dX12_readLine_99 ?_
  refine JO_callVi (pc := 102) [.long 7102839] lk_X12_265 rfl (ci := 12) rfl shX12 (w_X12_isWord G (d + 5) 7102839 σ) rfl rfl (Nat.le_of_ble_eq_true rfl) dX12_readLine_102 (fun r12 => ?_)
  refine JO_if_eq (pc := 105) (tgt := 128) dX12_readLine_105 (by decide) ?_ ?_
  · exact JO_sub (l_sub_some (l_sub_nil)) (w_X12_readLine_128 G d _ (hk193)  r12.2)
  · refine JO_aload_n (pc := 108) dX12_readLine_108 rfl ?_
    refine JO_getI (pc := 109) fl_X12_383 rfl fkX12_nHasLaw dX12_readLine_109 ?_
    refine JO_if_ne (pc := 112) (tgt := 128) dX12_readLine_112 (by decide) ?_ ?_
    · exact JO_sub (l_sub_some (l_sub_nil)) (w_X12_readLine_128 G d _ (hk193)  r12.2)
    · refine JO_aload_n (pc := 115) dX12_readLine_115 rfl ?_
      refine JO_iconst (pc := 116) (a := 1) dX12_readLine_116 (by decide) ?_
      refine JO_putZc (pc := 117) fl_X12_383 rfl (by decide) fkX12_nHasLaw dX12_readLine_117 (fun σ13 => ?_)
      refine JO_aload_n (pc := 120) dX12_readLine_120 rfl ?_
      refine JO_iconst (pc := 121) (a := 0) dX12_readLine_121 (by decide) ?_
      refine JO_callVv (pc := 122) [.int 0] lk_X12_386 rfl (ci := 12) rfl shX12 (w_X12_formula G (d + 1) 0 σ13) rfl rfl (Nat.le_of_ble_eq_true rfl) dX12_readLine_122 (fun σ14 => ?_)
      refine JO_goto (pc := 125) (tgt := 193) dX12_readLine_125 (by decide) ?_
      exact JO_sub (l_sub_some (l_sub_nil)) (hk193  σ14)
set_option maxHeartbeats 4000000 in
set_option maxRecDepth 100000 in
theorem w_X12_readLine_219 (G : JG) (d : Nat) : ∀ (σ : Mem), JO G mX12_readLine (d + 6) 219 [some (.ref (G.1 + off 1000))] [] σ rV (X12_readLine_219 σ) := by
  intro σ
  unfold X12_readLine_219
  refine JO_aload_n (pc := 219) dX12_readLine_219 rfl ?_
  refine JO_getI (pc := 220) fl_X12_212 rfl fkX12_fault dX12_readLine_220 ?_
  refine JO_if_ne (pc := 223) (tgt := 230) dX12_readLine_223 (by decide) ?_ ?_
  · exact JO_retv (pc := 230) rfl dX12_readLine_230
  · refine JO_aload_n (pc := 226) dX12_readLine_226 rfl ?_
    refine JO_callVv (pc := 227) [] lk_X12_272 rfl (ci := 12) rfl shX12 (w_X12_token G (d + 4)  σ) rfl rfl (Nat.le_of_ble_eq_true rfl) dX12_readLine_227 (fun σ11 => ?_)
    exact JO_retv (pc := 230) rfl dX12_readLine_230
set_option maxHeartbeats 4000000 in
set_option maxRecDepth 100000 in
theorem w_X12_readLine_72 (G : JG) (d : Nat) (k193 : Mem → Option Mem) (hk193 : ∀ (σ : Mem), JO G mX12_readLine (d + 6) 193 [some (.ref (G.1 + off 1000))] [] σ rV (k193 σ)) : ∀ (σ : Mem), JO G mX12_readLine (d + 6) 72 [some (.ref (G.1 + off 1000))] [] σ rV (X12_readLine_72 k193 σ) := by
  intro σ
  unfold X12_readLine_72
  refine JO_aload_n (pc := 72) dX12_readLine_72 rfl ?_
  refine JO_ldc2 (pc := 73) kc_X12_233 rfl dX12_readLine_73 ?_
  refine JO_callVi (pc := 76) [.long 1684365940] lk_X12_265 rfl (ci := 12) rfl shX12 (w_X12_isWord G (d + 5) 1684365940 σ) rfl rfl (Nat.le_of_ble_eq_true rfl) dX12_readLine_76 (fun r9 => ?_)
  refine JO_if_eq (pc := 79) (tgt := 98) dX12_readLine_79 (by decide) ?_ ?_
  · exact JO_sub (l_sub_some (l_sub_nil)) (w_X12_readLine_98 G d _ (hk193)  r9.2)
  · refine JO_aload_n (pc := 82) dX12_readLine_82 rfl ?_
    refine JO_getI (pc := 83) fl_X12_367 rfl fkX12_nDebts dX12_readLine_83 ?_
    refine JO_bipush (pc := 86) (a := 20) dX12_readLine_86 (by decide) ?_
    refine JO_icmp_ge (pc := 88) (tgt := 98) dX12_readLine_88 (by decide) ?_ ?_
    · exact JO_sub (l_sub_some (l_sub_nil)) (w_X12_readLine_98 G d _ (hk193)  r9.2)
    · refine JO_aload_n (pc := 91) dX12_readLine_91 rfl ?_
      refine JO_callVv (pc := 92) [] lk_X12_380 rfl (ci := 12) rfl shX12 (w_X12_readDebt G (d + 2)  r9.2) rfl rfl (Nat.le_of_ble_eq_true rfl) dX12_readLine_92 (fun σ10 => ?_)
      refine JO_goto (pc := 95) (tgt := 193) dX12_readLine_95 (by decide) ?_
      exact JO_sub (l_sub_some (l_sub_nil)) (hk193  σ10)
set_option maxHeartbeats 4000000 in
set_option maxRecDepth 100000 in
theorem w_X12_readLine_46 (G : JG) (d : Nat) (k193 : Mem → Option Mem) (hk193 : ∀ (σ : Mem), JO G mX12_readLine (d + 6) 193 [some (.ref (G.1 + off 1000))] [] σ rV (k193 σ)) : ∀ (σ : Mem), JO G mX12_readLine (d + 6) 46 [some (.ref (G.1 + off 1000))] [] σ rV (X12_readLine_46 k193 σ) := by
  intro σ
  unfold X12_readLine_46
  refine JO_aload_n (pc := 46) dX12_readLine_46 rfl ?_
  refine JO_ldc2 (pc := 47) kc_X12_217 rfl dX12_readLine_47 ?_
  refine JO_callVi (pc := 50) [.long 123581014175598] lk_X12_265 rfl (ci := 12) rfl shX12 (w_X12_isWord G (d + 5) 123581014175598 σ) rfl rfl (Nat.le_of_ble_eq_true rfl) dX12_readLine_50 (fun r5 => ?_)
  refine JO_if_eq (pc := 53) (tgt := 72) dX12_readLine_53 (by decide) ?_ ?_
  · exact JO_sub (l_sub_some (l_sub_nil)) (w_X12_readLine_72 G d _ (hk193)  r5.2)
  · refine JO_aload_n (pc := 56) dX12_readLine_56 rfl ?_
    refine JO_getI (pc := 57) fl_X12_287 rfl fkX12_nPeople dX12_readLine_57 ?_
    refine JO_bipush (pc := 60) (a := 6) dX12_readLine_60 (by decide) ?_
    refine JO_icmp_ge (pc := 62) (tgt := 72) dX12_readLine_62 (by decide) ?_ ?_
    · exact JO_sub (l_sub_some (l_sub_nil)) (w_X12_readLine_72 G d _ (hk193)  r5.2)
    · refine JO_aload_n (pc := 65) dX12_readLine_65 rfl ?_
      refine JO_callVv (pc := 66) [] lk_X12_377 rfl (ci := 12) rfl shX12 (w_X12_readPerson G d  r5.2) rfl rfl (Nat.le_of_ble_eq_true rfl) dX12_readLine_66 (fun σ6 => ?_)
      refine JO_goto (pc := 69) (tgt := 193) dX12_readLine_69 (by decide) ?_
      exact JO_sub (l_sub_some (l_sub_nil)) (hk193  σ6)
set_option maxHeartbeats 4000000 in
set_option maxRecDepth 100000 in
theorem w_X12_readLine_193 (G : JG) (d : Nat) : ∀ (σ : Mem), JO G mX12_readLine (d + 6) 193 [some (.ref (G.1 + off 1000))] [] σ rV (X12_readLine_193 σ) := by
  intro σ
  unfold X12_readLine_193
  refine JO_aload_n (pc := 193) dX12_readLine_193 rfl ?_
  refine JO_iconst (pc := 194) (a := 1) dX12_readLine_194 (by decide) ?_
  refine JO_putZc (pc := 195) fl_X12_374 rfl (by decide) fkX12_nHasLine dX12_readLine_195 (fun σ7 => ?_)
  refine JO_aload_n (pc := 198) dX12_readLine_198 rfl ?_
  refine JO_getI (pc := 199) fl_X12_212 rfl fkX12_fault dX12_readLine_199 ?_
  refine JO_if_ne (pc := 202) (tgt := 219) dX12_readLine_202 (by decide) ?_ ?_
  · exact JO_sub (l_sub_some (l_sub_nil)) (w_X12_readLine_219 G d  σ7)
  · refine JO_aload_n (pc := 205) dX12_readLine_205 rfl ?_
    refine JO_getI (pc := 206) fl_X12_199 rfl fkX12_sort dX12_readLine_206 ?_
    refine JO_bipush (pc := 209) (a := 59) dX12_readLine_209 (by decide) ?_
    refine JO_icmp_eq (pc := 211) (tgt := 219) dX12_readLine_211 (by decide) ?_ ?_
    · exact JO_sub (l_sub_some (l_sub_nil)) (w_X12_readLine_219 G d  σ7)
    · refine JO_aload_n (pc := 214) dX12_readLine_214 rfl ?_
      refine JO_iconst (pc := 215) (a := 2) dX12_readLine_215 (by decide) ?_
      refine JO_callVv (pc := 216) [.int 2] lk_X12_269 rfl (ci := 12) rfl shX12 (w_X12_wrong G (d + 5) 2 σ7) rfl rfl (Nat.le_of_ble_eq_true rfl) dX12_readLine_216 (fun σ8 => ?_)
      exact JO_sub (l_sub_some (l_sub_nil)) (w_X12_readLine_219 G d  σ8)
set_option maxHeartbeats 4000000 in
set_option maxRecDepth 100000 in
theorem w_X12_readLine (G : JG) (d : Nat) (σ : Mem) : JS G mX12_readLine (d + 6) [.ref (G.1 + off 1000)] σ rV (X12_readLine σ) := by
  refine JS_of 0 (by decide +kernel) (Nat.le_of_ble_eq_true rfl) (L := [some (.ref (G.1 + off 1000))]) rfl ?_
  unfold X12_readLine
  refine JO_aload_n (pc := 0) dX12_readLine_0 rfl ?_
  refine JO_ldc2 (pc := 1) kc_X12_215 rfl dX12_readLine_1 ?_
  refine JO_callVi (pc := 4) [.long 6578553] lk_X12_265 rfl (ci := 12) rfl shX12 (w_X12_isWord G (d + 5) 6578553 σ) rfl rfl (Nat.le_of_ble_eq_true rfl) dX12_readLine_4 (fun r1 => ?_)
  refine JO_if_eq (pc := 7) (tgt := 46) dX12_readLine_7 (by decide) ?_ ?_
  · exact JO_sub (l_sub_some (l_sub_nil)) (w_X12_readLine_46 G d _ (w_X12_readLine_193 G d)  r1.2)
  · refine JO_aload_n (pc := 10) dX12_readLine_10 rfl ?_
    refine JO_getI (pc := 11) fl_X12_370 rfl fkX12_nHasDay dX12_readLine_11 ?_
    refine JO_if_ne (pc := 14) (tgt := 46) dX12_readLine_14 (by decide) ?_ ?_
    · exact JO_sub (l_sub_some (l_sub_nil)) (w_X12_readLine_46 G d _ (w_X12_readLine_193 G d)  r1.2)
    · refine JO_aload_n (pc := 17) dX12_readLine_17 rfl ?_
      refine JO_getI (pc := 18) fl_X12_374 rfl fkX12_nHasLine dX12_readLine_18 ?_
      refine JO_if_ne (pc := 21) (tgt := 46) dX12_readLine_21 (by decide) ?_ ?_
      · exact JO_sub (l_sub_some (l_sub_nil)) (w_X12_readLine_46 G d _ (w_X12_readLine_193 G d)  r1.2)
      · refine JO_aload_n (pc := 24) dX12_readLine_24 rfl ?_
        refine JO_iconst (pc := 25) (a := 1) dX12_readLine_25 (by decide) ?_
        refine JO_putZc (pc := 26) fl_X12_370 rfl (by decide) fkX12_nHasDay dX12_readLine_26 (fun σ2 => ?_)
        refine JO_aload_n (pc := 29) dX12_readLine_29 rfl ?_
        refine JO_aload_n (pc := 30) dX12_readLine_30 rfl ?_
        refine JO_ldc2 (pc := 31) kc_X12_215 rfl dX12_readLine_31 ?_
        refine JO_iconst (pc := 34) (a := 2) dX12_readLine_34 (by decide) ?_
        refine JO_bipush (pc := 35) (a := 24) dX12_readLine_35 (by decide) ?_
        refine JO_callVi (pc := 37) [.long 6578553, .int 2, .int 24] lk_X12_283 rfl (ci := 12) rfl shX12 (w_X12_told G (d + 2) 6578553 2 24 σ2) rfl rfl (Nat.le_of_ble_eq_true rfl) dX12_readLine_37 (fun r3 => ?_)
        refine JO_putI (pc := 40) fl_X12_357 rfl fkX12_nDay dX12_readLine_40 (fun σ4 => ?_)
        refine JO_goto (pc := 43) (tgt := 193) dX12_readLine_43 (by decide) ?_
        exact JO_sub (l_sub_some (l_sub_nil)) (w_X12_readLine_193 G d  σ4)
set_option maxHeartbeats 4000000 in
set_option maxRecDepth 100000 in
theorem w_X12_readAll_99 (G : JG) (d : Nat) : ∀ (n : Nat) (σ : Mem), JO G mX12_readAll (d + 7) 99 [some (.ref (G.1 + off 1000)), none] [] σ rV (X12_readAll_99 n σ) := by
  intro n
  induction n with
  | zero =>
    intro σ
    exact JO_none
  | succ n ih =>
    intro σ
    rw [X12_readAll_99]
    refine JO_aload_n (pc := 99) dX12_readAll_99 rfl ?_
    refine JO_getI (pc := 100) fl_X12_212 rfl fkX12_fault dX12_readAll_100 ?_
    refine JO_if_ne (pc := 103) (tgt := 120) dX12_readAll_103 (by decide) ?_ ?_
    · exact JO_retv (pc := 120) rfl dX12_readAll_120
    · refine JO_aload_n (pc := 106) dX12_readAll_106 rfl ?_
      refine JO_getI (pc := 107) fl_X12_199 rfl fkX12_sort dX12_readAll_107 ?_
      refine JO_if_eq (pc := 110) (tgt := 120) dX12_readAll_110 (by decide) ?_ ?_
      · exact JO_retv (pc := 120) rfl dX12_readAll_120
      · refine JO_aload_n (pc := 113) dX12_readAll_113 rfl ?_
        refine JO_callVv (pc := 114) [] lk_X12_395 rfl (ci := 12) rfl shX12 (w_X12_readLine G d  σ) rfl rfl (Nat.le_of_ble_eq_true rfl) dX12_readAll_114 (fun σ19 => ?_)
        refine JO_goto (pc := 117) (tgt := 99) dX12_readAll_117 (by decide) ?_
        exact JO_sub (l_sub_some (l_sub_none (l_sub_nil))) (ih  σ19)
set_option maxHeartbeats 4000000 in
set_option maxRecDepth 100000 in
theorem w_X12_readAll_76 (G : JG) (d : Nat) : ∀ (n : Nat) (x1 : Int32) (σ : Mem), JO G mX12_readAll (d + 7) 76 [some (.ref (G.1 + off 1000)), some (.int x1)] [] σ rV (X12_readAll_76 n x1 σ) := by
  intro n
  induction n with
  | zero =>
    intro x1 σ
    exact JO_none
  | succ n ih =>
    intro x1 σ
    rw [X12_readAll_76]
    refine JO_iload_n (pc := 76) dX12_readAll_76 rfl ?_
    refine JO_bipush (pc := 77) (a := 36) dX12_readAll_77 (by decide) ?_
    refine JO_icmp_ge (pc := 79) (tgt := 95) dX12_readAll_79 (by decide) ?_ ?_
    · refine JO_aload_n (pc := 95) dX12_readAll_95 rfl ?_
      refine JO_callVv (pc := 96) [] lk_X12_272 rfl (ci := 12) rfl shX12 (w_X12_token G (d + 5)  σ) rfl rfl (Nat.le_of_ble_eq_true rfl) dX12_readAll_96 (fun σ16 => ?_)
      exact JO_sub (l_sub_some (l_sub_none (l_sub_nil))) (w_X12_readAll_99 G d fu  σ16)
    · refine JO_aload_n (pc := 82) dX12_readAll_82 rfl ?_
      refine JO_getR (pc := 83) fl_X12_69 rfl fkX12_nOwed dX12_readAll_83 ?_
      refine JO_iload_n (pc := 86) dX12_readAll_86 rfl ?_
      refine JO_iconst (pc := 87) (a := 0) dX12_readAll_87 (by decide) ?_
      refine JO_iast (pc := 88) akX12_nOwed dX12_readAll_88 (fun σ17 => ?_)
      refine JO_inc (pc := 89) (b := 1) (L' := fun v18 => [some (.ref (G.1 + off 1000)), some (.int v18)]) dX12_readAll_89 rfl rfl (by decide) rfl (fun _ => rfl) (fun v18 => ?_)
      refine JO_goto (pc := 92) (tgt := 76) dX12_readAll_92 (by decide) ?_
      exact JO_sub (l_sub_some (l_sub_some (l_sub_nil))) (ih v18 σ17)
set_option maxHeartbeats 4000000 in
set_option maxRecDepth 100000 in
theorem w_X12_readAll (G : JG) (d : Nat) (σ : Mem) : JS G mX12_readAll (d + 7) [.ref (G.1 + off 1000)] σ rV (X12_readAll σ) := by
  refine JS_of 1 (by decide +kernel) (Nat.le_of_ble_eq_true rfl) (L := [some (.ref (G.1 + off 1000)), none]) rfl ?_
  unfold X12_readAll
  refine JO_aload_n (pc := 0) dX12_readAll_0 rfl ?_
  refine JO_aload_n (pc := 1) dX12_readAll_1 rfl ?_
  refine JO_getI (pc := 2) fl_X12_172 rfl fkX12_taped dX12_readAll_2 ?_
  refine JO_putI (pc := 5) fl_X12_182 rfl fkX12_size dX12_readAll_5 (fun σ1 => ?_)
  refine JO_aload_n (pc := 8) dX12_readAll_8 rfl ?_
  refine JO_iconst (pc := 9) (a := 0) dX12_readAll_9 (by decide) ?_
  refine JO_putI (pc := 10) fl_X12_172 rfl fkX12_taped dX12_readAll_10 (fun σ2 => ?_)
  refine JO_aload_n (pc := 13) dX12_readAll_13 rfl ?_
  refine JO_iconst (pc := 14) (a := 0) dX12_readAll_14 (by decide) ?_
  refine JO_putI (pc := 15) fl_X12_179 rfl fkX12_at dX12_readAll_15 (fun σ3 => ?_)
  refine JO_aload_n (pc := 18) dX12_readAll_18 rfl ?_
  refine JO_iconst (pc := 19) (a := 0) dX12_readAll_19 (by decide) ?_
  refine JO_putI (pc := 20) fl_X12_212 rfl fkX12_fault dX12_readAll_20 (fun σ4 => ?_)
  refine JO_aload_n (pc := 23) dX12_readAll_23 rfl ?_
  refine JO_iconst (pc := 24) (a := (-1)) dX12_readAll_24 (by decide) ?_
  refine JO_putI (pc := 25) fl_X12_13 rfl fkX12_faultPlace dX12_readAll_25 (fun σ5 => ?_)
  refine JO_aload_n (pc := 28) dX12_readAll_28 rfl ?_
  refine JO_iconst (pc := 29) (a := 0) dX12_readAll_29 (by decide) ?_
  refine JO_putI (pc := 30) fl_X12_287 rfl fkX12_nPeople dX12_readAll_30 (fun σ6 => ?_)
  refine JO_aload_n (pc := 33) dX12_readAll_33 rfl ?_
  refine JO_iconst (pc := 34) (a := 0) dX12_readAll_34 (by decide) ?_
  refine JO_putI (pc := 35) fl_X12_367 rfl fkX12_nDebts dX12_readAll_35 (fun σ7 => ?_)
  refine JO_aload_n (pc := 38) dX12_readAll_38 rfl ?_
  refine JO_bipush (pc := 39) (a := 10) dX12_readAll_39 (by decide) ?_
  refine JO_putI (pc := 41) fl_X12_357 rfl fkX12_nDay dX12_readAll_41 (fun σ8 => ?_)
  refine JO_aload_n (pc := 44) dX12_readAll_44 rfl ?_
  refine JO_iconst (pc := 45) (a := 0) dX12_readAll_45 (by decide) ?_
  refine JO_putZc (pc := 46) fl_X12_370 rfl (by decide) fkX12_nHasDay dX12_readAll_46 (fun σ9 => ?_)
  refine JO_aload_n (pc := 49) dX12_readAll_49 rfl ?_
  refine JO_iconst (pc := 50) (a := 0) dX12_readAll_50 (by decide) ?_
  refine JO_putZc (pc := 51) fl_X12_374 rfl (by decide) fkX12_nHasLine dX12_readAll_51 (fun σ10 => ?_)
  refine JO_aload_n (pc := 54) dX12_readAll_54 rfl ?_
  refine JO_iconst (pc := 55) (a := 0) dX12_readAll_55 (by decide) ?_
  refine JO_putZc (pc := 56) fl_X12_383 rfl (by decide) fkX12_nHasLaw dX12_readAll_56 (fun σ11 => ?_)
  refine JO_aload_n (pc := 59) dX12_readAll_59 rfl ?_
  refine JO_iconst (pc := 60) (a := 0) dX12_readAll_60 (by decide) ?_
  refine JO_putZc (pc := 61) fl_X12_389 rfl (by decide) fkX12_nHasInterest dX12_readAll_61 (fun σ12 => ?_)
  refine JO_aload_n (pc := 64) dX12_readAll_64 rfl ?_
  refine JO_iconst (pc := 65) (a := 0) dX12_readAll_65 (by decide) ?_
  refine JO_putZc (pc := 66) fl_X12_392 rfl (by decide) fkX12_nHasRain dX12_readAll_66 (fun σ13 => ?_)
  refine JO_aload_n (pc := 69) dX12_readAll_69 rfl ?_
  refine JO_iconst (pc := 70) (a := 0) dX12_readAll_70 (by decide) ?_
  refine JO_putI (pc := 71) fl_X12_306 rfl fkX12_nUnits dX12_readAll_71 (fun σ14 => ?_)
  refine JO_iconst (pc := 74) (a := 0) dX12_readAll_74 (by decide) ?_
  refine JO_nm (fun v15 => ?_)
  refine JO_istore_n (pc := 75) (L' := [some (.ref (G.1 + off 1000)), some (.int v15)]) dX12_readAll_75 rfl rfl rfl ?_
  exact JO_sub (l_sub_some (l_sub_some (l_sub_nil))) (w_X12_readAll_76 G d fu v15 σ14)
set_option maxHeartbeats 4000000 in
set_option maxRecDepth 100000 in
theorem w_X12_town_399 (G : JG) (d : Nat) : ∀ (n : Nat) (x1 : Int32) (σ : Mem), JO G mX12_town (d + 8) 399 [some (.ref (G.1 + off 1000)), some (.int x1), none] [] σ rI (X12_town_399 n x1 σ) := by
  intro n
  induction n with
  | zero =>
    intro x1 σ
    exact JO_none
  | succ n ih =>
    intro x1 σ
    rw [X12_town_399]
    refine JO_iload_n (pc := 399) dX12_town_399 rfl ?_
    refine JO_iconst (pc := 400) (a := 3) dX12_town_400 (by decide) ?_
    refine JO_icmp_ge (pc := 401) (tgt := 417) dX12_town_401 (by decide) ?_ ?_
    · refine JO_aload_n (pc := 417) dX12_town_417 rfl ?_
      refine JO_getI (pc := 418) fl_X12_401 rfl fkX12_people dX12_town_418 ?_
      exact JO_reti (pc := 421) rfl dX12_town_421
    · refine JO_aload_n (pc := 404) dX12_town_404 rfl ?_
      refine JO_getR (pc := 405) fl_X12_166 rfl fkX12_hasBox dX12_town_405 ?_
      refine JO_iload_n (pc := 408) dX12_town_408 rfl ?_
      refine JO_iconst (pc := 409) (a := 0) dX12_town_409 (by decide) ?_
      refine JO_zastc (pc := 410) akX12_hasBox (by decide) dX12_town_410 (fun σ44 => ?_)
      refine JO_inc (pc := 411) (b := 1) (L' := fun v45 => [some (.ref (G.1 + off 1000)), some (.int v45), none]) dX12_town_411 rfl rfl (by decide) rfl (fun _ => rfl) (fun v45 => ?_)
      refine JO_goto (pc := 414) (tgt := 399) dX12_town_414 (by decide) ?_
      exact JO_sub (l_sub_some (l_sub_some (l_sub_none (l_sub_nil)))) (ih v45 σ44)
set_option maxHeartbeats 4000000 in
set_option maxRecDepth 100000 in
theorem w_X12_town_350 (G : JG) (d : Nat) : ∀ (n : Nat) (x1 : Int32) (σ : Mem), JO G mX12_town (d + 8) 350 [some (.ref (G.1 + off 1000)), some (.int x1), none] [] σ rI (X12_town_350 n x1 σ) := by
  intro n
  induction n with
  | zero =>
    intro x1 σ
    exact JO_none
  | succ n ih =>
    intro x1 σ
    rw [X12_town_350]
    refine JO_iload_n (pc := 350) dX12_town_350 rfl ?_
    refine JO_bipush (pc := 351) (a := 36) dX12_town_351 (by decide) ?_
    refine JO_icmp_ge (pc := 353) (tgt := 377) dX12_town_353 (by decide) ?_ ?_
    · refine JO_aload_n (pc := 377) dX12_town_377 rfl ?_
      refine JO_iconst (pc := 378) (a := 0) dX12_town_378 (by decide) ?_
      refine JO_putI (pc := 379) fl_X12_416 rfl fkX12_acts dX12_town_379 (fun σ37 => ?_)
      refine JO_aload_n (pc := 382) dX12_town_382 rfl ?_
      refine JO_iconst (pc := 383) (a := 0) dX12_town_383 (by decide) ?_
      refine JO_putI (pc := 384) fl_X12_419 rfl fkX12_undone dX12_town_384 (fun σ38 => ?_)
      refine JO_aload_n (pc := 387) dX12_town_387 rfl ?_
      refine JO_iconst (pc := 388) (a := 0) dX12_town_388 (by decide) ?_
      refine JO_putI (pc := 389) fl_X12_422 rfl fkX12_tracks dX12_town_389 (fun σ39 => ?_)
      refine JO_aload_n (pc := 392) dX12_town_392 rfl ?_
      refine JO_iconst (pc := 393) (a := 0) dX12_town_393 (by decide) ?_
      refine JO_putI (pc := 394) fl_X12_425 rfl fkX12_lain dX12_town_394 (fun σ40 => ?_)
      refine JO_iconst (pc := 397) (a := 0) dX12_town_397 (by decide) ?_
      refine JO_nm (fun v41 => ?_)
      refine JO_istore_n (pc := 398) (L' := [some (.ref (G.1 + off 1000)), some (.int v41), none]) dX12_town_398 rfl rfl rfl ?_
      exact JO_sub (l_sub_some (l_sub_some (l_sub_none (l_sub_nil)))) (w_X12_town_399 G d fu v41 σ40)
    · refine JO_aload_n (pc := 356) dX12_town_356 rfl ?_
      refine JO_getR (pc := 357) fl_X12_99 rfl fkX12_now dX12_town_357 ?_
      refine JO_bipush (pc := 360) (a := 24) dX12_town_360 (by decide) ?_
      refine JO_iload_n (pc := 362) dX12_town_362 rfl ?_
      refine JO_iadd (pc := 363) dX12_town_363 ?_
      refine JO_aload_n (pc := 364) dX12_town_364 rfl ?_
      refine JO_getR (pc := 365) fl_X12_93 rfl fkX12_owedTold dX12_town_365 ?_
      refine JO_iload_n (pc := 368) dX12_town_368 rfl ?_
      refine JO_iald (pc := 369) akX12_owedTold dX12_town_369 ?_
      refine JO_iast (pc := 370) akX12_now dX12_town_370 (fun σ42 => ?_)
      refine JO_inc (pc := 371) (b := 1) (L' := fun v43 => [some (.ref (G.1 + off 1000)), some (.int v43), none]) dX12_town_371 rfl rfl (by decide) rfl (fun _ => rfl) (fun v43 => ?_)
      refine JO_goto (pc := 374) (tgt := 350) dX12_town_374 (by decide) ?_
      exact JO_sub (l_sub_some (l_sub_some (l_sub_none (l_sub_nil)))) (ih v43 σ42)
set_option maxHeartbeats 4000000 in
set_option maxRecDepth 100000 in
theorem w_X12_town_285 (G : JG) (d : Nat) : ∀ (n : Nat) (x1 : Int32) (σ : Mem), JO G mX12_town (d + 8) 285 [some (.ref (G.1 + off 1000)), some (.int x1), none] [] σ rI (X12_town_285 n x1 σ) := by
  intro n
  induction n with
  | zero =>
    intro x1 σ
    exact JO_none
  | succ n ih =>
    intro x1 σ
    rw [X12_town_285]
    refine JO_iload_n (pc := 285) dX12_town_285 rfl ?_
    refine JO_aload_n (pc := 286) dX12_town_286 rfl ?_
    refine JO_getI (pc := 287) fl_X12_401 rfl fkX12_people dX12_town_287 ?_
    refine JO_icmp_ge (pc := 290) (tgt := 348) dX12_town_290 (by decide) ?_ ?_
    · refine JO_iconst (pc := 348) (a := 0) dX12_town_348 (by decide) ?_
      refine JO_nm (fun v31 => ?_)
      refine JO_istore_n (pc := 349) (L' := [some (.ref (G.1 + off 1000)), some (.int v31), none]) dX12_town_349 rfl rfl rfl ?_
      exact JO_sub (l_sub_some (l_sub_some (l_sub_none (l_sub_nil)))) (w_X12_town_350 G d fu v31 σ)
    · refine JO_aload_n (pc := 293) dX12_town_293 rfl ?_
      refine JO_getR (pc := 294) fl_X12_99 rfl fkX12_now dX12_town_294 ?_
      refine JO_iconst (pc := 297) (a := 0) dX12_town_297 (by decide) ?_
      refine JO_iload_n (pc := 298) dX12_town_298 rfl ?_
      refine JO_iadd (pc := 299) dX12_town_299 ?_
      refine JO_aload_n (pc := 300) dX12_town_300 rfl ?_
      refine JO_getR (pc := 301) fl_X12_72 rfl fkX12_door dX12_town_301 ?_
      refine JO_iload_n (pc := 304) dX12_town_304 rfl ?_
      refine JO_iald (pc := 305) akX12_door dX12_town_305 ?_
      refine JO_iast (pc := 306) akX12_now dX12_town_306 (fun σ32 => ?_)
      refine JO_aload_n (pc := 307) dX12_town_307 rfl ?_
      refine JO_getR (pc := 308) fl_X12_99 rfl fkX12_now dX12_town_308 ?_
      refine JO_bipush (pc := 311) (a := 6) dX12_town_311 (by decide) ?_
      refine JO_iload_n (pc := 313) dX12_town_313 rfl ?_
      refine JO_iadd (pc := 314) dX12_town_314 ?_
      refine JO_iconst (pc := 315) (a := (-1)) dX12_town_315 (by decide) ?_
      refine JO_iast (pc := 316) akX12_now dX12_town_316 (fun σ33 => ?_)
      refine JO_aload_n (pc := 317) dX12_town_317 rfl ?_
      refine JO_getR (pc := 318) fl_X12_99 rfl fkX12_now dX12_town_318 ?_
      refine JO_bipush (pc := 321) (a := 12) dX12_town_321 (by decide) ?_
      refine JO_iload_n (pc := 323) dX12_town_323 rfl ?_
      refine JO_iadd (pc := 324) dX12_town_324 ?_
      refine JO_iload_n (pc := 325) dX12_town_325 rfl ?_
      refine JO_iast (pc := 326) akX12_now dX12_town_326 (fun σ34 => ?_)
      refine JO_aload_n (pc := 327) dX12_town_327 rfl ?_
      refine JO_getR (pc := 328) fl_X12_99 rfl fkX12_now dX12_town_328 ?_
      refine JO_bipush (pc := 331) (a := 18) dX12_town_331 (by decide) ?_
      refine JO_iload_n (pc := 333) dX12_town_333 rfl ?_
      refine JO_iadd (pc := 334) dX12_town_334 ?_
      refine JO_aload_n (pc := 335) dX12_town_335 rfl ?_
      refine JO_getR (pc := 336) fl_X12_90 rfl fkX12_coinTold dX12_town_336 ?_
      refine JO_iload_n (pc := 339) dX12_town_339 rfl ?_
      refine JO_iald (pc := 340) akX12_coinTold dX12_town_340 ?_
      refine JO_iast (pc := 341) akX12_now dX12_town_341 (fun σ35 => ?_)
      refine JO_inc (pc := 342) (b := 1) (L' := fun v36 => [some (.ref (G.1 + off 1000)), some (.int v36), none]) dX12_town_342 rfl rfl (by decide) rfl (fun _ => rfl) (fun v36 => ?_)
      refine JO_goto (pc := 345) (tgt := 285) dX12_town_345 (by decide) ?_
      exact JO_sub (l_sub_some (l_sub_some (l_sub_none (l_sub_nil)))) (ih v36 σ35)
set_option maxHeartbeats 4000000 in
set_option maxRecDepth 100000 in
theorem w_X12_town_86 (G : JG) (d : Nat) (k63 : Int32 → Mem → Option (Int32 × Mem)) (hk63 : ∀ (x1 : Int32) (σ : Mem), JO G mX12_town (d + 8) 63 [some (.ref (G.1 + off 1000)), some (.int x1), none] [] σ rI (k63 x1 σ)) : ∀ (n : Nat) (x1 : Int32) (x2 : Int32) (σ : Mem), JO G mX12_town (d + 8) 86 [some (.ref (G.1 + off 1000)), some (.int x1), some (.int x2)] [] σ rI (X12_town_86 k63 n x1 x2 σ) := by
  intro n
  induction n with
  | zero =>
    intro x1 x2 σ
    exact JO_none
  | succ n ih =>
    intro x1 x2 σ
    rw [X12_town_86]
    refine JO_iload_n (pc := 86) dX12_town_86 rfl ?_
    refine JO_sipush (pc := 87) (a := 320) dX12_town_87 (by decide) ?_
    refine JO_iload_n (pc := 90) dX12_town_90 rfl ?_
    refine JO_imul (pc := 91) dX12_town_91 ?_
    refine JO_aload_n (pc := 92) dX12_town_92 rfl ?_
    refine JO_getR (pc := 93) fl_X12_36 rfl fkX12_many dX12_town_93 ?_
    refine JO_iload_n (pc := 96) dX12_town_96 rfl ?_
    refine JO_iald (pc := 97) akX12_many dX12_town_97 ?_
    refine JO_iadd (pc := 98) dX12_town_98 ?_
    refine JO_icmp_ge (pc := 99) (tgt := 132) dX12_town_99 (by decide) ?_ ?_
    · refine JO_inc (pc := 132) (b := 1) (L' := fun v21 => [some (.ref (G.1 + off 1000)), some (.int v21), some (.int x2)]) dX12_town_132 rfl rfl (by decide) rfl (fun _ => rfl) (fun v21 => ?_)
      refine JO_goto (pc := 135) (tgt := 63) dX12_town_135 (by decide) ?_
      exact JO_sub (l_sub_some (l_sub_some (l_sub_none (l_sub_nil)))) (hk63 v21 σ)
    · refine JO_aload_n (pc := 102) dX12_town_102 rfl ?_
      refine JO_getR (pc := 103) fl_X12_30 rfl fkX12_step dX12_town_103 ?_
      refine JO_iload_n (pc := 106) dX12_town_106 rfl ?_
      refine JO_aload_n (pc := 107) dX12_town_107 rfl ?_
      refine JO_getR (pc := 108) fl_X12_21 rfl fkX12_nStep dX12_town_108 ?_
      refine JO_iload_n (pc := 111) dX12_town_111 rfl ?_
      refine JO_iald (pc := 112) akX12_nStep dX12_town_112 ?_
      refine JO_iast (pc := 113) akX12_step dX12_town_113 (fun σ22 => ?_)
      refine JO_aload_n (pc := 114) dX12_town_114 rfl ?_
      refine JO_getR (pc := 115) fl_X12_33 rfl fkX12_arg dX12_town_115 ?_
      refine JO_iload_n (pc := 118) dX12_town_118 rfl ?_
      refine JO_aload_n (pc := 119) dX12_town_119 rfl ?_
      refine JO_getR (pc := 120) fl_X12_24 rfl fkX12_nArg dX12_town_120 ?_
      refine JO_iload_n (pc := 123) dX12_town_123 rfl ?_
      refine JO_iald (pc := 124) akX12_nArg dX12_town_124 ?_
      refine JO_iast (pc := 125) akX12_arg dX12_town_125 (fun σ23 => ?_)
      refine JO_inc (pc := 126) (b := 1) (L' := fun v24 => [some (.ref (G.1 + off 1000)), some (.int x1), some (.int v24)]) dX12_town_126 rfl rfl (by decide) rfl (fun _ => rfl) (fun v24 => ?_)
      refine JO_goto (pc := 129) (tgt := 86) dX12_town_129 (by decide) ?_
      exact JO_sub (l_sub_some (l_sub_some (l_sub_some (l_sub_nil)))) (ih x1 v24 σ23)
set_option maxHeartbeats 4000000 in
set_option maxRecDepth 100000 in
theorem w_X12_town_264 (G : JG) (d : Nat) : ∀ (n : Nat) (x1 : Int32) (σ : Mem), JO G mX12_town (d + 8) 264 [some (.ref (G.1 + off 1000)), some (.int x1), none] [] σ rI (X12_town_264 n x1 σ) := by
  intro n
  induction n with
  | zero =>
    intro x1 σ
    exact JO_none
  | succ n ih =>
    intro x1 σ
    rw [X12_town_264]
    refine JO_iload_n (pc := 264) dX12_town_264 rfl ?_
    refine JO_bipush (pc := 265) (a := 63) dX12_town_265 (by decide) ?_
    refine JO_icmp_ge (pc := 267) (tgt := 283) dX12_town_267 (by decide) ?_ ?_
    · refine JO_iconst (pc := 283) (a := 0) dX12_town_283 (by decide) ?_
      refine JO_nm (fun v28 => ?_)
      refine JO_istore_n (pc := 284) (L' := [some (.ref (G.1 + off 1000)), some (.int v28), none]) dX12_town_284 rfl rfl rfl ?_
      exact JO_sub (l_sub_some (l_sub_some (l_sub_none (l_sub_nil)))) (w_X12_town_285 G d fu v28 σ)
    · refine JO_aload_n (pc := 270) dX12_town_270 rfl ?_
      refine JO_getR (pc := 271) fl_X12_99 rfl fkX12_now dX12_town_271 ?_
      refine JO_iload_n (pc := 274) dX12_town_274 rfl ?_
      refine JO_iconst (pc := 275) (a := 0) dX12_town_275 (by decide) ?_
      refine JO_iast (pc := 276) akX12_now dX12_town_276 (fun σ29 => ?_)
      refine JO_inc (pc := 277) (b := 1) (L' := fun v30 => [some (.ref (G.1 + off 1000)), some (.int v30), none]) dX12_town_277 rfl rfl (by decide) rfl (fun _ => rfl) (fun v30 => ?_)
      refine JO_goto (pc := 280) (tgt := 264) dX12_town_280 (by decide) ?_
      exact JO_sub (l_sub_some (l_sub_some (l_sub_none (l_sub_nil)))) (ih v30 σ29)
set_option maxHeartbeats 4000000 in
set_option maxRecDepth 100000 in
theorem w_X12_town_238 (G : JG) (d : Nat) : ∀ (n : Nat) (x1 : Int32) (σ : Mem), JO G mX12_town (d + 8) 238 [some (.ref (G.1 + off 1000)), some (.int x1), none] [] σ rI (X12_town_238 n x1 σ) := by
  intro n
  induction n with
  | zero =>
    intro x1 σ
    exact JO_none
  | succ n ih =>
    intro x1 σ
    rw [X12_town_238]
    refine JO_iload_n (pc := 238) dX12_town_238 rfl ?_
    refine JO_bipush (pc := 239) (a := 36) dX12_town_239 (by decide) ?_
    refine JO_icmp_ge (pc := 241) (tgt := 262) dX12_town_241 (by decide) ?_ ?_
    · refine JO_iconst (pc := 262) (a := 0) dX12_town_262 (by decide) ?_
      refine JO_nm (fun v25 => ?_)
      refine JO_istore_n (pc := 263) (L' := [some (.ref (G.1 + off 1000)), some (.int v25), none]) dX12_town_263 rfl rfl rfl ?_
      exact JO_sub (l_sub_some (l_sub_some (l_sub_none (l_sub_nil)))) (w_X12_town_264 G d fu v25 σ)
    · refine JO_aload_n (pc := 244) dX12_town_244 rfl ?_
      refine JO_getR (pc := 245) fl_X12_93 rfl fkX12_owedTold dX12_town_245 ?_
      refine JO_iload_n (pc := 248) dX12_town_248 rfl ?_
      refine JO_aload_n (pc := 249) dX12_town_249 rfl ?_
      refine JO_getR (pc := 250) fl_X12_69 rfl fkX12_nOwed dX12_town_250 ?_
      refine JO_iload_n (pc := 253) dX12_town_253 rfl ?_
      refine JO_iald (pc := 254) akX12_nOwed dX12_town_254 ?_
      refine JO_iast (pc := 255) akX12_owedTold dX12_town_255 (fun σ26 => ?_)
      refine JO_inc (pc := 256) (b := 1) (L' := fun v27 => [some (.ref (G.1 + off 1000)), some (.int v27), none]) dX12_town_256 rfl rfl (by decide) rfl (fun _ => rfl) (fun v27 => ?_)
      refine JO_goto (pc := 259) (tgt := 238) dX12_town_259 (by decide) ?_
      exact JO_sub (l_sub_some (l_sub_some (l_sub_none (l_sub_nil)))) (ih v27 σ26)
set_option maxHeartbeats 4000000 in
set_option maxRecDepth 100000 in
theorem w_X12_town_140 (G : JG) (d : Nat) : ∀ (n : Nat) (x1 : Int32) (σ : Mem), JO G mX12_town (d + 8) 140 [some (.ref (G.1 + off 1000)), some (.int x1), none] [] σ rI (X12_town_140 n x1 σ) := by
  intro n
  induction n with
  | zero =>
    intro x1 σ
    exact JO_none
  | succ n ih =>
    intro x1 σ
    rw [X12_town_140]
    refine JO_iload_n (pc := 140) dX12_town_140 rfl ?_
    refine JO_bipush (pc := 141) (a := 6) dX12_town_141 (by decide) ?_
    refine JO_icmp_ge (pc := 143) (tgt := 236) dX12_town_143 (by decide) ?_ ?_
    · refine JO_iconst (pc := 236) (a := 0) dX12_town_236 (by decide) ?_
      refine JO_nm (fun v12 => ?_)
      refine JO_istore_n (pc := 237) (L' := [some (.ref (G.1 + off 1000)), some (.int v12), none]) dX12_town_237 rfl rfl rfl ?_
      exact JO_sub (l_sub_some (l_sub_some (l_sub_none (l_sub_nil)))) (w_X12_town_238 G d fu v12 σ)
    · refine JO_aload_n (pc := 146) dX12_town_146 rfl ?_
      refine JO_getR (pc := 147) fl_X12_72 rfl fkX12_door dX12_town_147 ?_
      refine JO_iload_n (pc := 150) dX12_town_150 rfl ?_
      refine JO_aload_n (pc := 151) dX12_town_151 rfl ?_
      refine JO_getR (pc := 152) fl_X12_48 rfl fkX12_nDoor dX12_town_152 ?_
      refine JO_iload_n (pc := 155) dX12_town_155 rfl ?_
      refine JO_iald (pc := 156) akX12_nDoor dX12_town_156 ?_
      refine JO_iast (pc := 157) akX12_door dX12_town_157 (fun σ13 => ?_)
      refine JO_aload_n (pc := 158) dX12_town_158 rfl ?_
      refine JO_getR (pc := 159) fl_X12_75 rfl fkX12_from dX12_town_159 ?_
      refine JO_iload_n (pc := 162) dX12_town_162 rfl ?_
      refine JO_aload_n (pc := 163) dX12_town_163 rfl ?_
      refine JO_getR (pc := 164) fl_X12_51 rfl fkX12_nFrom dX12_town_164 ?_
      refine JO_iload_n (pc := 167) dX12_town_167 rfl ?_
      refine JO_iald (pc := 168) akX12_nFrom dX12_town_168 ?_
      refine JO_iast (pc := 169) akX12_from dX12_town_169 (fun σ14 => ?_)
      refine JO_aload_n (pc := 170) dX12_town_170 rfl ?_
      refine JO_getR (pc := 171) fl_X12_78 rfl fkX12_until dX12_town_171 ?_
      refine JO_iload_n (pc := 174) dX12_town_174 rfl ?_
      refine JO_aload_n (pc := 175) dX12_town_175 rfl ?_
      refine JO_getR (pc := 176) fl_X12_54 rfl fkX12_nUntil dX12_town_176 ?_
      refine JO_iload_n (pc := 179) dX12_town_179 rfl ?_
      refine JO_iald (pc := 180) akX12_nUntil dX12_town_180 ?_
      refine JO_iast (pc := 181) akX12_until dX12_town_181 (fun σ15 => ?_)
      refine JO_aload_n (pc := 182) dX12_town_182 rfl ?_
      refine JO_getR (pc := 183) fl_X12_81 rfl fkX12_chairs dX12_town_183 ?_
      refine JO_iload_n (pc := 186) dX12_town_186 rfl ?_
      refine JO_aload_n (pc := 187) dX12_town_187 rfl ?_
      refine JO_getR (pc := 188) fl_X12_57 rfl fkX12_nChairs dX12_town_188 ?_
      refine JO_iload_n (pc := 191) dX12_town_191 rfl ?_
      refine JO_iald (pc := 192) akX12_nChairs dX12_town_192 ?_
      refine JO_iast (pc := 193) akX12_chairs dX12_town_193 (fun σ16 => ?_)
      refine JO_aload_n (pc := 194) dX12_town_194 rfl ?_
      refine JO_getR (pc := 195) fl_X12_84 rfl fkX12_rest dX12_town_195 ?_
      refine JO_iload_n (pc := 198) dX12_town_198 rfl ?_
      refine JO_aload_n (pc := 199) dX12_town_199 rfl ?_
      refine JO_getR (pc := 200) fl_X12_60 rfl fkX12_nRest dX12_town_200 ?_
      refine JO_iload_n (pc := 203) dX12_town_203 rfl ?_
      refine JO_iald (pc := 204) akX12_nRest dX12_town_204 ?_
      refine JO_iast (pc := 205) akX12_rest dX12_town_205 (fun σ17 => ?_)
      refine JO_aload_n (pc := 206) dX12_town_206 rfl ?_
      refine JO_getR (pc := 207) fl_X12_87 rfl fkX12_price dX12_town_207 ?_
      refine JO_iload_n (pc := 210) dX12_town_210 rfl ?_
      refine JO_aload_n (pc := 211) dX12_town_211 rfl ?_
      refine JO_getR (pc := 212) fl_X12_63 rfl fkX12_nPrice dX12_town_212 ?_
      refine JO_iload_n (pc := 215) dX12_town_215 rfl ?_
      refine JO_iald (pc := 216) akX12_nPrice dX12_town_216 ?_
      refine JO_iast (pc := 217) akX12_price dX12_town_217 (fun σ18 => ?_)
      refine JO_aload_n (pc := 218) dX12_town_218 rfl ?_
      refine JO_getR (pc := 219) fl_X12_90 rfl fkX12_coinTold dX12_town_219 ?_
      refine JO_iload_n (pc := 222) dX12_town_222 rfl ?_
      refine JO_aload_n (pc := 223) dX12_town_223 rfl ?_
      refine JO_getR (pc := 224) fl_X12_66 rfl fkX12_nCoin dX12_town_224 ?_
      refine JO_iload_n (pc := 227) dX12_town_227 rfl ?_
      refine JO_iald (pc := 228) akX12_nCoin dX12_town_228 ?_
      refine JO_iast (pc := 229) akX12_coinTold dX12_town_229 (fun σ19 => ?_)
      refine JO_inc (pc := 230) (b := 1) (L' := fun v20 => [some (.ref (G.1 + off 1000)), some (.int v20), none]) dX12_town_230 rfl rfl (by decide) rfl (fun _ => rfl) (fun v20 => ?_)
      refine JO_goto (pc := 233) (tgt := 140) dX12_town_233 (by decide) ?_
      exact JO_sub (l_sub_some (l_sub_some (l_sub_none (l_sub_nil)))) (ih v20 σ19)
set_option maxHeartbeats 4000000 in
set_option maxRecDepth 100000 in
theorem w_X12_town_63 (G : JG) (d : Nat) : ∀ (n : Nat) (x1 : Int32) (σ : Mem), JO G mX12_town (d + 8) 63 [some (.ref (G.1 + off 1000)), some (.int x1), none] [] σ rI (X12_town_63 n x1 σ) := by
  intro n
  induction n with
  | zero =>
    intro x1 σ
    exact JO_none
  | succ n ih =>
    intro x1 σ
    rw [X12_town_63]
    refine JO_iload_n (pc := 63) dX12_town_63 rfl ?_
    refine JO_iconst (pc := 64) (a := 3) dX12_town_64 (by decide) ?_
    refine JO_icmp_ge (pc := 65) (tgt := 138) dX12_town_65 (by decide) ?_ ?_
    · refine JO_iconst (pc := 138) (a := 0) dX12_town_138 (by decide) ?_
      refine JO_nm (fun v9 => ?_)
      refine JO_istore_n (pc := 139) (L' := [some (.ref (G.1 + off 1000)), some (.int v9), none]) dX12_town_139 rfl rfl rfl ?_
      exact JO_sub (l_sub_some (l_sub_some (l_sub_none (l_sub_nil)))) (w_X12_town_140 G d fu v9 σ)
    · refine JO_aload_n (pc := 68) dX12_town_68 rfl ?_
      refine JO_getR (pc := 69) fl_X12_36 rfl fkX12_many dX12_town_69 ?_
      refine JO_iload_n (pc := 72) dX12_town_72 rfl ?_
      refine JO_aload_n (pc := 73) dX12_town_73 rfl ?_
      refine JO_getR (pc := 74) fl_X12_27 rfl fkX12_nMany dX12_town_74 ?_
      refine JO_iload_n (pc := 77) dX12_town_77 rfl ?_
      refine JO_iald (pc := 78) akX12_nMany dX12_town_78 ?_
      refine JO_iast (pc := 79) akX12_many dX12_town_79 (fun σ10 => ?_)
      refine JO_sipush (pc := 80) (a := 320) dX12_town_80 (by decide) ?_
      refine JO_iload_n (pc := 83) dX12_town_83 rfl ?_
      refine JO_imul (pc := 84) dX12_town_84 ?_
      refine JO_nm (fun v11 => ?_)
      refine JO_istore_n (pc := 85) (L' := [some (.ref (G.1 + off 1000)), some (.int x1), some (.int v11)]) dX12_town_85 rfl rfl rfl ?_
      exact JO_sub (l_sub_some (l_sub_some (l_sub_some (l_sub_nil)))) (w_X12_town_86 G d _ (ih) fu x1 v11 σ10)
set_option maxHeartbeats 4000000 in
set_option maxRecDepth 100000 in
theorem w_X12_town (G : JG) (d : Nat) (σ : Mem) : JS G mX12_town (d + 8) [.ref (G.1 + off 1000)] σ rI (X12_town σ) := by
  refine JS_of 2 (by decide +kernel) (Nat.le_of_ble_eq_true rfl) (L := [some (.ref (G.1 + off 1000)), none, none]) rfl ?_
  unfold X12_town
  refine JO_aload_n (pc := 0) dX12_town_0 rfl ?_
  refine JO_callVv (pc := 1) [] lk_X12_398 rfl (ci := 12) rfl shX12 (w_X12_readAll G d  σ) rfl rfl (Nat.le_of_ble_eq_true rfl) dX12_town_1 (fun σ1 => ?_)
  refine JO_aload_n (pc := 4) dX12_town_4 rfl ?_
  refine JO_getI (pc := 5) fl_X12_212 rfl fkX12_fault dX12_town_5 ?_
  refine JO_if_le (pc := 8) (tgt := 13) dX12_town_8 (by decide) ?_ ?_
  · refine JO_aload_n (pc := 13) dX12_town_13 rfl ?_
    refine JO_aload_n (pc := 14) dX12_town_14 rfl ?_
    refine JO_getI (pc := 15) fl_X12_287 rfl fkX12_nPeople dX12_town_15 ?_
    refine JO_putI (pc := 18) fl_X12_401 rfl fkX12_people dX12_town_18 (fun σ2 => ?_)
    refine JO_aload_n (pc := 21) dX12_town_21 rfl ?_
    refine JO_aload_n (pc := 22) dX12_town_22 rfl ?_
    refine JO_getI (pc := 23) fl_X12_357 rfl fkX12_nDay dX12_town_23 ?_
    refine JO_putI (pc := 26) fl_X12_96 rfl fkX12_day dX12_town_26 (fun σ3 => ?_)
    refine JO_aload_n (pc := 29) dX12_town_29 rfl ?_
    refine JO_aload_n (pc := 30) dX12_town_30 rfl ?_
    refine JO_getI (pc := 31) fl_X12_383 rfl fkX12_nHasLaw dX12_town_31 ?_
    refine JO_putZ (pc := 34) fl_X12_404 rfl fkX12_hasLaw dX12_town_34 (fun σ4 => ?_)
    refine JO_aload_n (pc := 37) dX12_town_37 rfl ?_
    refine JO_aload_n (pc := 38) dX12_town_38 rfl ?_
    refine JO_getI (pc := 39) fl_X12_389 rfl fkX12_nHasInterest dX12_town_39 ?_
    refine JO_putZ (pc := 42) fl_X12_407 rfl fkX12_hasInterest dX12_town_42 (fun σ5 => ?_)
    refine JO_aload_n (pc := 45) dX12_town_45 rfl ?_
    refine JO_aload_n (pc := 46) dX12_town_46 rfl ?_
    refine JO_getI (pc := 47) fl_X12_392 rfl fkX12_nHasRain dX12_town_47 ?_
    refine JO_putZ (pc := 50) fl_X12_410 rfl fkX12_hasRain dX12_town_50 (fun σ6 => ?_)
    refine JO_aload_n (pc := 53) dX12_town_53 rfl ?_
    refine JO_aload_n (pc := 54) dX12_town_54 rfl ?_
    refine JO_getI (pc := 55) fl_X12_306 rfl fkX12_nUnits dX12_town_55 ?_
    refine JO_putI (pc := 58) fl_X12_413 rfl fkX12_units dX12_town_58 (fun σ7 => ?_)
    refine JO_iconst (pc := 61) (a := 0) dX12_town_61 (by decide) ?_
    refine JO_nm (fun v8 => ?_)
    refine JO_istore_n (pc := 62) (L' := [some (.ref (G.1 + off 1000)), some (.int v8), none]) dX12_town_62 rfl rfl rfl ?_
    exact JO_sub (l_sub_some (l_sub_some (l_sub_none (l_sub_nil)))) (w_X12_town_63 G d fu v8 σ7)
  · refine JO_iconst (pc := 11) (a := (-1)) dX12_town_11 (by decide) ?_
    exact JO_reti (pc := 12) rfl dX12_town_12
set_option maxHeartbeats 4000000 in
set_option maxRecDepth 100000 in
theorem w_X12_fault (G : JG) (d : Nat) (x1 : Int32) (σ : Mem) : JS G mX12_fault d [.ref (G.1 + off 1000), .int x1] σ rI (X12_fault x1 σ) := by
  refine JS_of 0 (by decide +kernel) (Nat.le_of_ble_eq_true rfl) (L := [some (.ref (G.1 + off 1000)), some (.int x1)]) rfl ?_
  unfold X12_fault
  refine JO_iload_n (pc := 0) dX12_fault_0 rfl ?_
  refine JO_if_ne (pc := 1) (tgt := 11) dX12_fault_1 (by decide) ?_ ?_
  · refine JO_iload_n (pc := 11) dX12_fault_11 rfl ?_
    refine JO_iconst (pc := 12) (a := 1) dX12_fault_12 (by decide) ?_
    refine JO_icmp_ne (pc := 13) (tgt := 23) dX12_fault_13 (by decide) ?_ ?_
    · refine JO_iconst (pc := 23) (a := (-1)) dX12_fault_23 (by decide) ?_
      exact JO_reti (pc := 24) rfl dX12_fault_24
    · refine JO_aload_n (pc := 16) dX12_fault_16 rfl ?_
      refine JO_getI (pc := 17) fl_X12_13 rfl fkX12_faultPlace dX12_fault_17 ?_
      refine JO_goto (pc := 20) (tgt := 24) dX12_fault_20 (by decide) ?_
      exact JO_reti (pc := 24) rfl dX12_fault_24
  · refine JO_aload_n (pc := 4) dX12_fault_4 rfl ?_
    refine JO_getI (pc := 5) fl_X12_212 rfl fkX12_fault dX12_fault_5 ?_
    refine JO_goto (pc := 8) (tgt := 24) dX12_fault_8 (by decide) ?_
    exact JO_reti (pc := 24) rfl dX12_fault_24
set_option maxHeartbeats 4000000 in
set_option maxRecDepth 100000 in
theorem w_X12_isIn (G : JG) (d : Nat) (x0 : Int32) (x1 : Int32) (x2 : Int32) (σ : Mem) : JS G mX12_isIn d [.int x0, .int x1, .int x2] σ rI (X12_isIn x0 x1 x2 σ) := by
  refine JS_of 0 (by decide +kernel) (Nat.le_of_ble_eq_true rfl) (L := [some (.int x0), some (.int x1), some (.int x2)]) rfl ?_
  unfold X12_isIn
  refine JO_iload_n (pc := 0) dX12_isIn_0 rfl ?_
  refine JO_iload_n (pc := 1) dX12_isIn_1 rfl ?_
  refine JO_icmp_lt (pc := 2) (tgt := 14) dX12_isIn_2 (by decide) ?_ ?_
  · refine JO_iconst (pc := 14) (a := 0) dX12_isIn_14 (by decide) ?_
    exact JO_retzc (pc := 15) (by decide) rfl dX12_isIn_15
  · refine JO_iload_n (pc := 5) dX12_isIn_5 rfl ?_
    refine JO_iload_n (pc := 6) dX12_isIn_6 rfl ?_
    refine JO_icmp_gt (pc := 7) (tgt := 14) dX12_isIn_7 (by decide) ?_ ?_
    · refine JO_iconst (pc := 14) (a := 0) dX12_isIn_14 (by decide) ?_
      exact JO_retzc (pc := 15) (by decide) rfl dX12_isIn_15
    · refine JO_iconst (pc := 10) (a := 1) dX12_isIn_10 (by decide) ?_
      refine JO_goto (pc := 11) (tgt := 15) dX12_isIn_11 (by decide) ?_
      exact JO_retzc (pc := 15) (by decide) rfl dX12_isIn_15
set_option maxHeartbeats 4000000 in
set_option maxRecDepth 100000 in
theorem w_X12_isPerson (G : JG) (d : Nat) (x1 : Int32) (σ : Mem) : JS G mX12_isPerson (d + 1) [.ref (G.1 + off 1000), .int x1] σ rI (X12_isPerson x1 σ) := by
  refine JS_of 0 (by decide +kernel) (Nat.le_of_ble_eq_true rfl) (L := [some (.ref (G.1 + off 1000)), some (.int x1)]) rfl ?_
  unfold X12_isPerson
  refine JO_iload_n (pc := 0) dX12_isPerson_0 rfl ?_
  refine JO_iconst (pc := 1) (a := 0) dX12_isPerson_1 (by decide) ?_
  refine JO_aload_n (pc := 2) dX12_isPerson_2 rfl ?_
  refine JO_getI (pc := 3) fl_X12_401 rfl fkX12_people dX12_isPerson_3 ?_
  refine JO_iconst (pc := 6) (a := 1) dX12_isPerson_6 (by decide) ?_
  refine JO_isub (pc := 7) dX12_isPerson_7 ?_
  refine JO_callSi (pc := 8) [.int x1, .int 0, .int ((σ.1 1000 45) - 1)] lk_X12_428 rfl (w_X12_isIn G d x1 0 ((σ.1 1000 45) - 1) σ) rfl rfl (Nat.le_of_ble_eq_true rfl) dX12_isPerson_8 (fun r1 => ?_)
  exact JO_retz (pc := 11) rfl dX12_isPerson_11
set_option maxHeartbeats 4000000 in
set_option maxRecDepth 100000 in
theorem w_X12_areTwo (G : JG) (d : Nat) (x1 : Int32) (x2 : Int32) (σ : Mem) : JS G mX12_areTwo (d + 2) [.ref (G.1 + off 1000), .int x1, .int x2] σ rI (X12_areTwo x1 x2 σ) := by
  refine JS_of 0 (by decide +kernel) (Nat.le_of_ble_eq_true rfl) (L := [some (.ref (G.1 + off 1000)), some (.int x1), some (.int x2)]) rfl ?_
  unfold X12_areTwo
  refine JO_aload_n (pc := 0) dX12_areTwo_0 rfl ?_
  refine JO_iload_n (pc := 1) dX12_areTwo_1 rfl ?_
  refine JO_callVi (pc := 2) [.int x1] lk_X12_432 rfl (ci := 12) rfl shX12 (w_X12_isPerson G d x1 σ) rfl rfl (Nat.le_of_ble_eq_true rfl) dX12_areTwo_2 (fun r1 => ?_)
  refine JO_if_eq (pc := 5) (tgt := 25) dX12_areTwo_5 (by decide) ?_ ?_
  · refine JO_iconst (pc := 25) (a := 0) dX12_areTwo_25 (by decide) ?_
    exact JO_retzc (pc := 26) (by decide) rfl dX12_areTwo_26
  · refine JO_aload_n (pc := 8) dX12_areTwo_8 rfl ?_
    refine JO_iload_n (pc := 9) dX12_areTwo_9 rfl ?_
    refine JO_callVi (pc := 10) [.int x2] lk_X12_432 rfl (ci := 12) rfl shX12 (w_X12_isPerson G d x2 r1.2) rfl rfl (Nat.le_of_ble_eq_true rfl) dX12_areTwo_10 (fun r2 => ?_)
    refine JO_if_eq (pc := 13) (tgt := 25) dX12_areTwo_13 (by decide) ?_ ?_
    · refine JO_iconst (pc := 25) (a := 0) dX12_areTwo_25 (by decide) ?_
      exact JO_retzc (pc := 26) (by decide) rfl dX12_areTwo_26
    · refine JO_iload_n (pc := 16) dX12_areTwo_16 rfl ?_
      refine JO_iload_n (pc := 17) dX12_areTwo_17 rfl ?_
      refine JO_icmp_eq (pc := 18) (tgt := 25) dX12_areTwo_18 (by decide) ?_ ?_
      · refine JO_iconst (pc := 25) (a := 0) dX12_areTwo_25 (by decide) ?_
        exact JO_retzc (pc := 26) (by decide) rfl dX12_areTwo_26
      · refine JO_iconst (pc := 21) (a := 1) dX12_areTwo_21 (by decide) ?_
        refine JO_goto (pc := 22) (tgt := 26) dX12_areTwo_22 (by decide) ?_
        exact JO_retzc (pc := 26) (by decide) rfl dX12_areTwo_26
set_option maxHeartbeats 4000000 in
set_option maxRecDepth 100000 in
theorem w_X12_load_87 (G : JG) (d : Nat) : ∀ (n : Nat) (x1 : Int32) (σ : Mem), JO G mX12_load d 87 [some (.ref (G.1 + off 1000)), some (.int x1)] [] σ rV (X12_load_87 n x1 σ) := by
  intro n
  induction n with
  | zero =>
    intro x1 σ
    exact JO_none
  | succ n ih =>
    intro x1 σ
    rw [X12_load_87]
    refine JO_iload_n (pc := 87) dX12_load_87 rfl ?_
    refine JO_bipush (pc := 88) (a := 36) dX12_load_88 (by decide) ?_
    refine JO_icmp_ge (pc := 90) (tgt := 114) dX12_load_90 (by decide) ?_ ?_
    · refine JO_aload_n (pc := 114) dX12_load_114 rfl ?_
      refine JO_aload_n (pc := 115) dX12_load_115 rfl ?_
      refine JO_getR (pc := 116) fl_X12_99 rfl fkX12_now dX12_load_116 ?_
      refine JO_bipush (pc := 119) (a := 60) dX12_load_119 (by decide) ?_
      refine JO_ialdc (pc := 121) (k := 60) akX12_now (by decide) (by decide) dX12_load_121 ?_
      refine JO_putI (pc := 122) fl_X12_435 rfl fkX12_date dX12_load_122 (fun σ9 => ?_)
      refine JO_aload_n (pc := 125) dX12_load_125 rfl ?_
      refine JO_aload_n (pc := 126) dX12_load_126 rfl ?_
      refine JO_getR (pc := 127) fl_X12_99 rfl fkX12_now dX12_load_127 ?_
      refine JO_bipush (pc := 130) (a := 61) dX12_load_130 (by decide) ?_
      refine JO_ialdc (pc := 132) (k := 61) akX12_now (by decide) (by decide) dX12_load_132 ?_
      refine JO_putI (pc := 133) fl_X12_438 rfl fkX12_hour dX12_load_133 (fun σ10 => ?_)
      exact JO_retv (pc := 136) rfl dX12_load_136
    · refine JO_aload_n (pc := 93) dX12_load_93 rfl ?_
      refine JO_getR (pc := 94) fl_X12_114 rfl fkX12_owed dX12_load_94 ?_
      refine JO_iload_n (pc := 97) dX12_load_97 rfl ?_
      refine JO_aload_n (pc := 98) dX12_load_98 rfl ?_
      refine JO_getR (pc := 99) fl_X12_99 rfl fkX12_now dX12_load_99 ?_
      refine JO_bipush (pc := 102) (a := 24) dX12_load_102 (by decide) ?_
      refine JO_iload_n (pc := 104) dX12_load_104 rfl ?_
      refine JO_iadd (pc := 105) dX12_load_105 ?_
      refine JO_iald (pc := 106) akX12_now dX12_load_106 ?_
      refine JO_iast (pc := 107) akX12_owed dX12_load_107 (fun σ11 => ?_)
      refine JO_inc (pc := 108) (b := 1) (L' := fun v12 => [some (.ref (G.1 + off 1000)), some (.int v12)]) dX12_load_108 rfl rfl (by decide) rfl (fun _ => rfl) (fun v12 => ?_)
      refine JO_goto (pc := 111) (tgt := 87) dX12_load_111 (by decide) ?_
      exact JO_sub (l_sub_some (l_sub_some (l_sub_nil))) (ih v12 σ11)
set_option maxHeartbeats 4000000 in
set_option maxRecDepth 100000 in
theorem w_X12_load_2 (G : JG) (d : Nat) : ∀ (n : Nat) (x1 : Int32) (σ : Mem), JO G mX12_load d 2 [some (.ref (G.1 + off 1000)), some (.int x1)] [] σ rV (X12_load_2 n x1 σ) := by
  intro n
  induction n with
  | zero =>
    intro x1 σ
    exact JO_none
  | succ n ih =>
    intro x1 σ
    rw [X12_load_2]
    refine JO_iload_n (pc := 2) dX12_load_2 rfl ?_
    refine JO_bipush (pc := 3) (a := 6) dX12_load_3 (by decide) ?_
    refine JO_icmp_ge (pc := 5) (tgt := 85) dX12_load_5 (by decide) ?_ ?_
    · refine JO_iconst (pc := 85) (a := 0) dX12_load_85 (by decide) ?_
      refine JO_nm (fun v2 => ?_)
      refine JO_istore_n (pc := 86) (L' := [some (.ref (G.1 + off 1000)), some (.int v2)]) dX12_load_86 rfl rfl rfl ?_
      exact JO_sub (l_sub_some (l_sub_some (l_sub_nil))) (w_X12_load_87 G d fu v2 σ)
    · refine JO_aload_n (pc := 8) dX12_load_8 rfl ?_
      refine JO_getR (pc := 9) fl_X12_102 rfl fkX12_stand dX12_load_9 ?_
      refine JO_iload_n (pc := 12) dX12_load_12 rfl ?_
      refine JO_aload_n (pc := 13) dX12_load_13 rfl ?_
      refine JO_getR (pc := 14) fl_X12_99 rfl fkX12_now dX12_load_14 ?_
      refine JO_iconst (pc := 17) (a := 0) dX12_load_17 (by decide) ?_
      refine JO_iload_n (pc := 18) dX12_load_18 rfl ?_
      refine JO_iadd (pc := 19) dX12_load_19 ?_
      refine JO_iald (pc := 20) akX12_now dX12_load_20 ?_
      refine JO_iast (pc := 21) akX12_stand dX12_load_21 (fun σ3 => ?_)
      refine JO_aload_n (pc := 22) dX12_load_22 rfl ?_
      refine JO_getR (pc := 23) fl_X12_105 rfl fkX12_aim dX12_load_23 ?_
      refine JO_iload_n (pc := 26) dX12_load_26 rfl ?_
      refine JO_aload_n (pc := 27) dX12_load_27 rfl ?_
      refine JO_getR (pc := 28) fl_X12_99 rfl fkX12_now dX12_load_28 ?_
      refine JO_bipush (pc := 31) (a := 6) dX12_load_31 (by decide) ?_
      refine JO_iload_n (pc := 33) dX12_load_33 rfl ?_
      refine JO_iadd (pc := 34) dX12_load_34 ?_
      refine JO_iald (pc := 35) akX12_now dX12_load_35 ?_
      refine JO_iast (pc := 36) akX12_aim dX12_load_36 (fun σ4 => ?_)
      refine JO_aload_n (pc := 37) dX12_load_37 rfl ?_
      refine JO_getR (pc := 38) fl_X12_108 rfl fkX12_whom dX12_load_38 ?_
      refine JO_iload_n (pc := 41) dX12_load_41 rfl ?_
      refine JO_aload_n (pc := 42) dX12_load_42 rfl ?_
      refine JO_getR (pc := 43) fl_X12_99 rfl fkX12_now dX12_load_43 ?_
      refine JO_bipush (pc := 46) (a := 12) dX12_load_46 (by decide) ?_
      refine JO_iload_n (pc := 48) dX12_load_48 rfl ?_
      refine JO_iadd (pc := 49) dX12_load_49 ?_
      refine JO_iald (pc := 50) akX12_now dX12_load_50 ?_
      refine JO_iast (pc := 51) akX12_whom dX12_load_51 (fun σ5 => ?_)
      refine JO_aload_n (pc := 52) dX12_load_52 rfl ?_
      refine JO_getR (pc := 53) fl_X12_111 rfl fkX12_coin dX12_load_53 ?_
      refine JO_iload_n (pc := 56) dX12_load_56 rfl ?_
      refine JO_aload_n (pc := 57) dX12_load_57 rfl ?_
      refine JO_getR (pc := 58) fl_X12_99 rfl fkX12_now dX12_load_58 ?_
      refine JO_bipush (pc := 61) (a := 18) dX12_load_61 (by decide) ?_
      refine JO_iload_n (pc := 63) dX12_load_63 rfl ?_
      refine JO_iadd (pc := 64) dX12_load_64 ?_
      refine JO_iald (pc := 65) akX12_now dX12_load_65 ?_
      refine JO_iast (pc := 66) akX12_coin dX12_load_66 (fun σ6 => ?_)
      refine JO_aload_n (pc := 67) dX12_load_67 rfl ?_
      refine JO_getR (pc := 68) fl_X12_117 rfl fkX12_openFrom dX12_load_68 ?_
      refine JO_iload_n (pc := 71) dX12_load_71 rfl ?_
      refine JO_aload_n (pc := 72) dX12_load_72 rfl ?_
      refine JO_getR (pc := 73) fl_X12_75 rfl fkX12_from dX12_load_73 ?_
      refine JO_iload_n (pc := 76) dX12_load_76 rfl ?_
      refine JO_iald (pc := 77) akX12_from dX12_load_77 ?_
      refine JO_iast (pc := 78) akX12_openFrom dX12_load_78 (fun σ7 => ?_)
      refine JO_inc (pc := 79) (b := 1) (L' := fun v8 => [some (.ref (G.1 + off 1000)), some (.int v8)]) dX12_load_79 rfl rfl (by decide) rfl (fun _ => rfl) (fun v8 => ?_)
      refine JO_goto (pc := 82) (tgt := 2) dX12_load_82 (by decide) ?_
      exact JO_sub (l_sub_some (l_sub_some (l_sub_nil))) (ih v8 σ7)
set_option maxHeartbeats 4000000 in
set_option maxRecDepth 100000 in
theorem w_X12_load (G : JG) (d : Nat) (σ : Mem) : JS G mX12_load d [.ref (G.1 + off 1000)] σ rV (X12_load σ) := by
  refine JS_of 1 (by decide +kernel) (Nat.le_of_ble_eq_true rfl) (L := [some (.ref (G.1 + off 1000)), none]) rfl ?_
  unfold X12_load
  refine JO_iconst (pc := 0) (a := 0) dX12_load_0 (by decide) ?_
  refine JO_nm (fun v1 => ?_)
  refine JO_istore_n (pc := 1) (L' := [some (.ref (G.1 + off 1000)), some (.int v1)]) dX12_load_1 rfl rfl rfl ?_
  exact JO_sub (l_sub_some (l_sub_some (l_sub_nil))) (w_X12_load_2 G d fu v1 σ)
set_option maxHeartbeats 4000000 in
set_option maxRecDepth 100000 in
theorem w_X12_keep_45 (G : JG) (d : Nat) : ∀ (n : Nat) (x1 : Int32) (σ : Mem), JO G mX12_keep d 45 [some (.ref (G.1 + off 1000)), some (.int x1)] [] σ rV (X12_keep_45 n x1 σ) := by
  intro n
  induction n with
  | zero =>
    intro x1 σ
    exact JO_none
  | succ n ih =>
    intro x1 σ
    rw [X12_keep_45]
    refine JO_iload_n (pc := 45) dX12_keep_45 rfl ?_
    refine JO_bipush (pc := 46) (a := 36) dX12_keep_46 (by decide) ?_
    refine JO_icmp_ge (pc := 48) (tgt := 72) dX12_keep_48 (by decide) ?_ ?_
    · refine JO_aload_n (pc := 72) dX12_keep_72 rfl ?_
      refine JO_getR (pc := 73) fl_X12_99 rfl fkX12_now dX12_keep_73 ?_
      refine JO_bipush (pc := 76) (a := 60) dX12_keep_76 (by decide) ?_
      refine JO_aload_n (pc := 78) dX12_keep_78 rfl ?_
      refine JO_getI (pc := 79) fl_X12_435 rfl fkX12_date dX12_keep_79 ?_
      refine JO_iastc (pc := 82) (k := 60) akX12_now (by decide) (by decide) dX12_keep_82 (fun σ6 => ?_)
      refine JO_aload_n (pc := 83) dX12_keep_83 rfl ?_
      refine JO_getR (pc := 84) fl_X12_99 rfl fkX12_now dX12_keep_84 ?_
      refine JO_bipush (pc := 87) (a := 61) dX12_keep_87 (by decide) ?_
      refine JO_aload_n (pc := 89) dX12_keep_89 rfl ?_
      refine JO_getI (pc := 90) fl_X12_438 rfl fkX12_hour dX12_keep_90 ?_
      refine JO_iastc (pc := 93) (k := 61) akX12_now (by decide) (by decide) dX12_keep_93 (fun σ7 => ?_)
      exact JO_retv (pc := 94) rfl dX12_keep_94
    · refine JO_aload_n (pc := 51) dX12_keep_51 rfl ?_
      refine JO_getR (pc := 52) fl_X12_99 rfl fkX12_now dX12_keep_52 ?_
      refine JO_bipush (pc := 55) (a := 24) dX12_keep_55 (by decide) ?_
      refine JO_iload_n (pc := 57) dX12_keep_57 rfl ?_
      refine JO_iadd (pc := 58) dX12_keep_58 ?_
      refine JO_aload_n (pc := 59) dX12_keep_59 rfl ?_
      refine JO_getR (pc := 60) fl_X12_114 rfl fkX12_owed dX12_keep_60 ?_
      refine JO_iload_n (pc := 63) dX12_keep_63 rfl ?_
      refine JO_iald (pc := 64) akX12_owed dX12_keep_64 ?_
      refine JO_iast (pc := 65) akX12_now dX12_keep_65 (fun σ8 => ?_)
      refine JO_inc (pc := 66) (b := 1) (L' := fun v9 => [some (.ref (G.1 + off 1000)), some (.int v9)]) dX12_keep_66 rfl rfl (by decide) rfl (fun _ => rfl) (fun v9 => ?_)
      refine JO_goto (pc := 69) (tgt := 45) dX12_keep_69 (by decide) ?_
      exact JO_sub (l_sub_some (l_sub_some (l_sub_nil))) (ih v9 σ8)
set_option maxHeartbeats 4000000 in
set_option maxRecDepth 100000 in
theorem w_X12_keep_2 (G : JG) (d : Nat) : ∀ (n : Nat) (x1 : Int32) (σ : Mem), JO G mX12_keep d 2 [some (.ref (G.1 + off 1000)), some (.int x1)] [] σ rV (X12_keep_2 n x1 σ) := by
  intro n
  induction n with
  | zero =>
    intro x1 σ
    exact JO_none
  | succ n ih =>
    intro x1 σ
    rw [X12_keep_2]
    refine JO_iload_n (pc := 2) dX12_keep_2 rfl ?_
    refine JO_bipush (pc := 3) (a := 6) dX12_keep_3 (by decide) ?_
    refine JO_icmp_ge (pc := 5) (tgt := 43) dX12_keep_5 (by decide) ?_ ?_
    · refine JO_iconst (pc := 43) (a := 0) dX12_keep_43 (by decide) ?_
      refine JO_nm (fun v2 => ?_)
      refine JO_istore_n (pc := 44) (L' := [some (.ref (G.1 + off 1000)), some (.int v2)]) dX12_keep_44 rfl rfl rfl ?_
      exact JO_sub (l_sub_some (l_sub_some (l_sub_nil))) (w_X12_keep_45 G d fu v2 σ)
    · refine JO_aload_n (pc := 8) dX12_keep_8 rfl ?_
      refine JO_getR (pc := 9) fl_X12_99 rfl fkX12_now dX12_keep_9 ?_
      refine JO_iconst (pc := 12) (a := 0) dX12_keep_12 (by decide) ?_
      refine JO_iload_n (pc := 13) dX12_keep_13 rfl ?_
      refine JO_iadd (pc := 14) dX12_keep_14 ?_
      refine JO_aload_n (pc := 15) dX12_keep_15 rfl ?_
      refine JO_getR (pc := 16) fl_X12_102 rfl fkX12_stand dX12_keep_16 ?_
      refine JO_iload_n (pc := 19) dX12_keep_19 rfl ?_
      refine JO_iald (pc := 20) akX12_stand dX12_keep_20 ?_
      refine JO_iast (pc := 21) akX12_now dX12_keep_21 (fun σ3 => ?_)
      refine JO_aload_n (pc := 22) dX12_keep_22 rfl ?_
      refine JO_getR (pc := 23) fl_X12_99 rfl fkX12_now dX12_keep_23 ?_
      refine JO_bipush (pc := 26) (a := 18) dX12_keep_26 (by decide) ?_
      refine JO_iload_n (pc := 28) dX12_keep_28 rfl ?_
      refine JO_iadd (pc := 29) dX12_keep_29 ?_
      refine JO_aload_n (pc := 30) dX12_keep_30 rfl ?_
      refine JO_getR (pc := 31) fl_X12_111 rfl fkX12_coin dX12_keep_31 ?_
      refine JO_iload_n (pc := 34) dX12_keep_34 rfl ?_
      refine JO_iald (pc := 35) akX12_coin dX12_keep_35 ?_
      refine JO_iast (pc := 36) akX12_now dX12_keep_36 (fun σ4 => ?_)
      refine JO_inc (pc := 37) (b := 1) (L' := fun v5 => [some (.ref (G.1 + off 1000)), some (.int v5)]) dX12_keep_37 rfl rfl (by decide) rfl (fun _ => rfl) (fun v5 => ?_)
      refine JO_goto (pc := 40) (tgt := 2) dX12_keep_40 (by decide) ?_
      exact JO_sub (l_sub_some (l_sub_some (l_sub_nil))) (ih v5 σ4)
set_option maxHeartbeats 4000000 in
set_option maxRecDepth 100000 in
theorem w_X12_keep (G : JG) (d : Nat) (σ : Mem) : JS G mX12_keep d [.ref (G.1 + off 1000)] σ rV (X12_keep σ) := by
  refine JS_of 1 (by decide +kernel) (Nat.le_of_ble_eq_true rfl) (L := [some (.ref (G.1 + off 1000)), none]) rfl ?_
  unfold X12_keep
  refine JO_iconst (pc := 0) (a := 0) dX12_keep_0 (by decide) ?_
  refine JO_nm (fun v1 => ?_)
  refine JO_istore_n (pc := 1) (L' := [some (.ref (G.1 + off 1000)), some (.int v1)]) dX12_keep_1 rfl rfl rfl ?_
  exact JO_sub (l_sub_some (l_sub_some (l_sub_nil))) (w_X12_keep_2 G d fu v1 σ)
set_option maxHeartbeats 4000000 in
set_option maxRecDepth 100000 in
theorem w_X12_wetAt_40 (G : JG) (d : Nat) : ∀ (s0 : Int32) (σ : Mem), JO G mX12_wetAt (d + 3) 40 [none, none, none] [.int s0] σ rI (X12_wetAt_40 s0 σ) := by
  intro s0 σ
  unfold X12_wetAt_40
  refine JO_callSi (pc := 40) [.int s0] lk_X12_343 rfl (w_X12_truth G (d + 2) s0 σ) rfl rfl (Nat.le_of_ble_eq_true rfl) dX12_wetAt_40 (fun r5 => ?_)
  exact JO_reti (pc := 43) rfl dX12_wetAt_43
set_option maxHeartbeats 4000000 in
set_option maxRecDepth 100000 in
theorem w_X12_wetAt (G : JG) (d : Nat) (x1 : Int32) (x2 : Int32) (σ : Mem) : JS G mX12_wetAt (d + 3) [.ref (G.1 + off 1000), .int x1, .int x2] σ rI (X12_wetAt x1 x2 σ) := by
  refine JS_of 0 (by decide +kernel) (Nat.le_of_ble_eq_true rfl) (L := [some (.ref (G.1 + off 1000)), some (.int x1), some (.int x2)]) rfl ?_
  unfold X12_wetAt
  refine JO_aload_n (pc := 0) dX12_wetAt_0 rfl ?_
  refine JO_getI (pc := 1) fl_X12_410 rfl fkX12_hasRain dX12_wetAt_1 ?_
  refine JO_if_ne (pc := 4) (tgt := 9) dX12_wetAt_4 (by decide) ?_ ?_
  · refine JO_aload_n (pc := 9) dX12_wetAt_9 rfl ?_
    refine JO_callVv (pc := 10) [] lk_X12_441 rfl (ci := 12) rfl shX12 (w_X12_noAsks G (d + 2)  σ) rfl rfl (Nat.le_of_ble_eq_true rfl) dX12_wetAt_10 (fun σ1 => ?_)
    refine JO_aload_n (pc := 13) dX12_wetAt_13 rfl ?_
    refine JO_getR (pc := 14) fl_X12_45 rfl fkX12_asks dX12_wetAt_14 ?_
    refine JO_iconst (pc := 17) (a := 1) dX12_wetAt_17 (by decide) ?_
    refine JO_iload_n (pc := 18) dX12_wetAt_18 rfl ?_
    refine JO_iastc (pc := 19) (k := 1) akX12_asks (by decide) (by decide) dX12_wetAt_19 (fun σ2 => ?_)
    refine JO_aload_n (pc := 20) dX12_wetAt_20 rfl ?_
    refine JO_getR (pc := 21) fl_X12_45 rfl fkX12_asks dX12_wetAt_21 ?_
    refine JO_iconst (pc := 24) (a := 2) dX12_wetAt_24 (by decide) ?_
    refine JO_iload_n (pc := 25) dX12_wetAt_25 rfl ?_
    refine JO_iastc (pc := 26) (k := 2) akX12_asks (by decide) (by decide) dX12_wetAt_26 (fun σ3 => ?_)
    refine JO_aload_n (pc := 27) dX12_wetAt_27 rfl ?_
    refine JO_iconst (pc := 28) (a := 2) dX12_wetAt_28 (by decide) ?_
    refine JO_callVi (pc := 29) [.int 2] lk_X12_444 rfl (ci := 12) rfl shX12 (w_X12_worked G d 2 σ3) rfl rfl (Nat.le_of_ble_eq_true rfl) dX12_wetAt_29 (fun r4 => ?_)
    refine JO_if_eq (pc := 32) (tgt := 39) dX12_wetAt_32 (by decide) ?_ ?_
    · refine JO_iconst (pc := 39) (a := 0) dX12_wetAt_39 (by decide) ?_
      exact JO_sub (l_sub_none (l_sub_none (l_sub_none (l_sub_nil)))) (w_X12_wetAt_40 G d 0 r4.2)
    · refine JO_iconst (pc := 35) (a := 1) dX12_wetAt_35 (by decide) ?_
      refine JO_goto (pc := 36) (tgt := 40) dX12_wetAt_36 (by decide) ?_
      exact JO_sub (l_sub_none (l_sub_none (l_sub_none (l_sub_nil)))) (w_X12_wetAt_40 G d 1 r4.2)
  · refine JO_iconst (pc := 7) (a := 0) dX12_wetAt_7 (by decide) ?_
    exact JO_reti (pc := 8) rfl dX12_wetAt_8
set_option maxHeartbeats 4000000 in
set_option maxRecDepth 100000 in
theorem w_X12_doesRest (G : JG) (d : Nat) (x1 : Int32) (σ : Mem) : JS G mX12_doesRest d [.ref (G.1 + off 1000), .int x1] σ rI (X12_doesRest x1 σ) := by
  refine JS_of 0 (by decide +kernel) (Nat.le_of_ble_eq_true rfl) (L := [some (.ref (G.1 + off 1000)), some (.int x1)]) rfl ?_
  unfold X12_doesRest
  refine JO_aload_n (pc := 0) dX12_doesRest_0 rfl ?_
  refine JO_getI (pc := 1) fl_X12_438 rfl fkX12_hour dX12_doesRest_1 ?_
  refine JO_aload_n (pc := 4) dX12_doesRest_4 rfl ?_
  refine JO_getI (pc := 5) fl_X12_96 rfl fkX12_day dX12_doesRest_5 ?_
  refine JO_aload_n (pc := 8) dX12_doesRest_8 rfl ?_
  refine JO_getR (pc := 9) fl_X12_84 rfl fkX12_rest dX12_doesRest_9 ?_
  refine JO_iload_n (pc := 12) dX12_doesRest_12 rfl ?_
  refine JO_iald (pc := 13) akX12_rest dX12_doesRest_13 ?_
  refine JO_isub (pc := 14) dX12_doesRest_14 ?_
  refine JO_icmp_lt (pc := 15) (tgt := 22) dX12_doesRest_15 (by decide) ?_ ?_
  · refine JO_iconst (pc := 22) (a := 0) dX12_doesRest_22 (by decide) ?_
    exact JO_retzc (pc := 23) (by decide) rfl dX12_doesRest_23
  · refine JO_iconst (pc := 18) (a := 1) dX12_doesRest_18 (by decide) ?_
    refine JO_goto (pc := 19) (tgt := 23) dX12_doesRest_19 (by decide) ?_
    exact JO_retzc (pc := 23) (by decide) rfl dX12_doesRest_23
set_option maxHeartbeats 4000000 in
set_option maxRecDepth 100000 in
theorem w_X12_nearer (G : JG) (d : Nat) (x0 : Int32) (x1 : Int32) (σ : Mem) : JS G mX12_nearer d [.int x0, .int x1] σ rI (X12_nearer x0 x1 σ) := by
  refine JS_of 0 (by decide +kernel) (Nat.le_of_ble_eq_true rfl) (L := [some (.int x0), some (.int x1)]) rfl ?_
  unfold X12_nearer
  refine JO_iload_n (pc := 0) dX12_nearer_0 rfl ?_
  refine JO_iload_n (pc := 1) dX12_nearer_1 rfl ?_
  refine JO_icmp_ge (pc := 2) (tgt := 11) dX12_nearer_2 (by decide) ?_ ?_
  · refine JO_iload_n (pc := 11) dX12_nearer_11 rfl ?_
    refine JO_iload_n (pc := 12) dX12_nearer_12 rfl ?_
    refine JO_icmp_le (pc := 13) (tgt := 22) dX12_nearer_13 (by decide) ?_ ?_
    · refine JO_iload_n (pc := 22) dX12_nearer_22 rfl ?_
      exact JO_reti (pc := 23) rfl dX12_nearer_23
    · refine JO_iload_n (pc := 16) dX12_nearer_16 rfl ?_
      refine JO_iconst (pc := 17) (a := 1) dX12_nearer_17 (by decide) ?_
      refine JO_isub (pc := 18) dX12_nearer_18 ?_
      refine JO_goto (pc := 19) (tgt := 23) dX12_nearer_19 (by decide) ?_
      exact JO_reti (pc := 23) rfl dX12_nearer_23
  · refine JO_iload_n (pc := 5) dX12_nearer_5 rfl ?_
    refine JO_iconst (pc := 6) (a := 1) dX12_nearer_6 (by decide) ?_
    refine JO_iadd (pc := 7) dX12_nearer_7 ?_
    refine JO_goto (pc := 8) (tgt := 23) dX12_nearer_8 (by decide) ?_
    exact JO_reti (pc := 23) rfl dX12_nearer_23
set_option maxHeartbeats 4000000 in
set_option maxRecDepth 100000 in
theorem w_X12_goal_17 (G : JG) (d : Nat) : ∀ (x1 : Int32) (σ : Mem), JO G mX12_goal (d + 1) 17 [some (.ref (G.1 + off 1000)), some (.int x1)] [] σ rI (X12_goal_17 x1 σ) := by
  intro x1 σ
  unfold X12_goal_17
  refine JO_aload_n (pc := 17) dX12_goal_17 rfl ?_
  refine JO_getR (pc := 18) fl_X12_72 rfl fkX12_door dX12_goal_18 ?_
  refine JO_iload_n (pc := 21) dX12_goal_21 rfl ?_
  refine JO_iald (pc := 22) akX12_door dX12_goal_22 ?_
  refine JO_goto (pc := 23) (tgt := 37) dX12_goal_23 (by decide) ?_
  exact JO_reti (pc := 37) rfl dX12_goal_37
set_option maxHeartbeats 4000000 in
set_option maxRecDepth 100000 in
theorem w_X12_goal (G : JG) (d : Nat) (x1 : Int32) (σ : Mem) : JS G mX12_goal (d + 1) [.ref (G.1 + off 1000), .int x1] σ rI (X12_goal x1 σ) := by
  refine JS_of 0 (by decide +kernel) (Nat.le_of_ble_eq_true rfl) (L := [some (.ref (G.1 + off 1000)), some (.int x1)]) rfl ?_
  unfold X12_goal
  refine JO_aload_n (pc := 0) dX12_goal_0 rfl ?_
  refine JO_getR (pc := 1) fl_X12_105 rfl fkX12_aim dX12_goal_1 ?_
  refine JO_iload_n (pc := 4) dX12_goal_4 rfl ?_
  refine JO_iald (pc := 5) akX12_aim dX12_goal_5 ?_
  refine JO_if_lt (pc := 6) (tgt := 17) dX12_goal_6 (by decide) ?_ ?_
  · exact JO_sub (l_sub_some (l_sub_some (l_sub_nil))) (w_X12_goal_17 G d x1 σ)
  · refine JO_aload_n (pc := 9) dX12_goal_9 rfl ?_
    refine JO_iload_n (pc := 10) dX12_goal_10 rfl ?_
    refine JO_callVi (pc := 11) [.int x1] lk_X12_447 rfl (ci := 12) rfl shX12 (w_X12_doesRest G d x1 σ) rfl rfl (Nat.le_of_ble_eq_true rfl) dX12_goal_11 (fun r1 => ?_)
    refine JO_if_eq (pc := 14) (tgt := 26) dX12_goal_14 (by decide) ?_ ?_
    · refine JO_aload_n (pc := 26) dX12_goal_26 rfl ?_
      refine JO_getR (pc := 27) fl_X12_72 rfl fkX12_door dX12_goal_27 ?_
      refine JO_aload_n (pc := 30) dX12_goal_30 rfl ?_
      refine JO_getR (pc := 31) fl_X12_105 rfl fkX12_aim dX12_goal_31 ?_
      refine JO_iload_n (pc := 34) dX12_goal_34 rfl ?_
      refine JO_iald (pc := 35) akX12_aim dX12_goal_35 ?_
      refine JO_iald (pc := 36) akX12_door dX12_goal_36 ?_
      exact JO_reti (pc := 37) rfl dX12_goal_37
    · exact JO_sub (l_sub_some (l_sub_some (l_sub_nil))) (w_X12_goal_17 G d x1 r1.2)
set_option maxHeartbeats 4000000 in
set_option maxRecDepth 100000 in
theorem w_X12_goOut_142 (G : JG) (d : Nat) (k81 : Int32 → Mem → Option Mem) (hk81 : ∀ (x1 : Int32) (σ : Mem), JO G mX12_goOut (d + 2) 81 [some (.ref (G.1 + off 1000)), some (.int x1), none] [] σ rV (k81 x1 σ)) : ∀ (x1 : Int32) (x2 : Int32) (s0 : Int32) (s1 : Int32) (σ : Mem), JO G mX12_goOut (d + 2) 142 [some (.ref (G.1 + off 1000)), some (.int x1), some (.int x2)] [.int s0, .int s1, .ref (G.1 + off 1036)] σ rV (X12_goOut_142 k81 x1 x2 s0 s1 σ) := by
  intro x1 x2 s0 s1 σ
  unfold X12_goOut_142
  refine JO_zast (pc := 142) akX12_went dX12_goOut_142 (fun σ10 => ?_)
  refine JO_aload_n (pc := 143) dX12_goOut_143 rfl ?_
  refine JO_getR (pc := 144) fl_X12_102 rfl fkX12_stand dX12_goOut_144 ?_
  refine JO_iload_n (pc := 147) dX12_goOut_147 rfl ?_
  refine JO_iload_n (pc := 148) dX12_goOut_148 rfl ?_
  refine JO_iast (pc := 149) akX12_stand dX12_goOut_149 (fun σ11 => ?_)
  refine JO_inc (pc := 150) (b := 1) (L' := fun v12 => [some (.ref (G.1 + off 1000)), some (.int v12), some (.int x2)]) dX12_goOut_150 rfl rfl (by decide) rfl (fun _ => rfl) (fun v12 => ?_)
  refine JO_goto (pc := 153) (tgt := 81) dX12_goOut_153 (by decide) ?_
  exact JO_sub (l_sub_some (l_sub_some (l_sub_none (l_sub_nil)))) (hk81 v12 σ11)
set_option maxHeartbeats 4000000 in
set_option maxRecDepth 100000 in
theorem w_X12_goOut_121 (G : JG) (d : Nat) (k81 : Int32 → Mem → Option Mem) (hk81 : ∀ (x1 : Int32) (σ : Mem), JO G mX12_goOut (d + 2) 81 [some (.ref (G.1 + off 1000)), some (.int x1), none] [] σ rV (k81 x1 σ)) : ∀ (x1 : Int32) (s0 : Int32) (σ : Mem), JO G mX12_goOut (d + 2) 121 [some (.ref (G.1 + off 1000)), some (.int x1), none] [.int s0] σ rV (X12_goOut_121 k81 x1 s0 σ) := by
  intro x1 s0 σ
  unfold X12_goOut_121
  refine JO_istore_n (pc := 121) (L' := [some (.ref (G.1 + off 1000)), some (.int x1), some (.int s0)]) dX12_goOut_121 rfl rfl rfl ?_
  refine JO_aload_n (pc := 122) dX12_goOut_122 rfl ?_
  refine JO_getR (pc := 123) fl_X12_124 rfl fkX12_went dX12_goOut_123 ?_
  refine JO_iload_n (pc := 126) dX12_goOut_126 rfl ?_
  refine JO_iload_n (pc := 127) dX12_goOut_127 rfl ?_
  refine JO_aload_n (pc := 128) dX12_goOut_128 rfl ?_
  refine JO_getR (pc := 129) fl_X12_102 rfl fkX12_stand dX12_goOut_129 ?_
  refine JO_iload_n (pc := 132) dX12_goOut_132 rfl ?_
  refine JO_iald (pc := 133) akX12_stand dX12_goOut_133 ?_
  refine JO_icmp_eq (pc := 134) (tgt := 141) dX12_goOut_134 (by decide) ?_ ?_
  · refine JO_iconst (pc := 141) (a := 0) dX12_goOut_141 (by decide) ?_
    exact JO_sub (l_sub_some (l_sub_some (l_sub_some (l_sub_nil)))) (w_X12_goOut_142 G d _ (hk81) x1 s0 0 x1 σ)
  · refine JO_iconst (pc := 137) (a := 1) dX12_goOut_137 (by decide) ?_
    refine JO_goto (pc := 138) (tgt := 142) dX12_goOut_138 (by decide) ?_
    exact JO_sub (l_sub_some (l_sub_some (l_sub_some (l_sub_nil)))) (w_X12_goOut_142 G d _ (hk81) x1 s0 1 x1 σ)
set_option maxHeartbeats 4000000 in
set_option maxRecDepth 100000 in
theorem w_X12_goOut_71 (G : JG) (d : Nat) (k72 : Int32 → Int32 → Int32 → Mem → Option Mem) (hk72 : ∀ (x1 : Int32) (s0 : Int32) (s1 : Int32) (σ : Mem), JO G mX12_goOut (d + 2) 72 [some (.ref (G.1 + off 1000)), some (.int x1), none] [.int s0, .int s1, .ref (G.1 + off 1035)] σ rV (k72 x1 s0 s1 σ)) : ∀ (x1 : Int32) (s0 : Int32) (σ : Mem), JO G mX12_goOut (d + 2) 71 [some (.ref (G.1 + off 1000)), some (.int x1), none] [.int s0, .ref (G.1 + off 1035)] σ rV (X12_goOut_71 k72 x1 s0 σ) := by
  intro x1 s0 σ
  unfold X12_goOut_71
  refine JO_iconst (pc := 71) (a := 0) dX12_goOut_71 (by decide) ?_
  exact JO_sub (l_sub_some (l_sub_some (l_sub_none (l_sub_nil)))) (hk72 x1 0 s0 σ)
set_option maxHeartbeats 4000000 in
set_option maxRecDepth 100000 in
theorem w_X12_goOut_72 (G : JG) (d : Nat) (k2 : Int32 → Mem → Option Mem) (hk2 : ∀ (x1 : Int32) (σ : Mem), JO G mX12_goOut (d + 2) 2 [some (.ref (G.1 + off 1000)), some (.int x1), none] [] σ rV (k2 x1 σ)) : ∀ (x1 : Int32) (s0 : Int32) (s1 : Int32) (σ : Mem), JO G mX12_goOut (d + 2) 72 [some (.ref (G.1 + off 1000)), some (.int x1), none] [.int s0, .int s1, .ref (G.1 + off 1035)] σ rV (X12_goOut_72 k2 x1 s0 s1 σ) := by
  intro x1 s0 s1 σ
  unfold X12_goOut_72
  refine JO_zast (pc := 72) akX12_meets dX12_goOut_72 (fun σ8 => ?_)
  refine JO_inc (pc := 73) (b := 1) (L' := fun v9 => [some (.ref (G.1 + off 1000)), some (.int v9), none]) dX12_goOut_73 rfl rfl (by decide) rfl (fun _ => rfl) (fun v9 => ?_)
  refine JO_goto (pc := 76) (tgt := 2) dX12_goOut_76 (by decide) ?_
  exact JO_sub (l_sub_some (l_sub_some (l_sub_none (l_sub_nil)))) (hk2 v9 σ8)
set_option maxHeartbeats 4000000 in
set_option maxRecDepth 100000 in
theorem w_X12_goOut_81 (G : JG) (d : Nat) : ∀ (n : Nat) (x1 : Int32) (σ : Mem), JO G mX12_goOut (d + 2) 81 [some (.ref (G.1 + off 1000)), some (.int x1), none] [] σ rV (X12_goOut_81 n x1 σ) := by
  intro n
  induction n with
  | zero =>
    intro x1 σ
    exact JO_none
  | succ n ih =>
    intro x1 σ
    rw [X12_goOut_81]
    refine JO_iload_n (pc := 81) dX12_goOut_81 rfl ?_
    refine JO_aload_n (pc := 82) dX12_goOut_82 rfl ?_
    refine JO_getI (pc := 83) fl_X12_401 rfl fkX12_people dX12_goOut_83 ?_
    refine JO_icmp_ge (pc := 86) (tgt := 156) dX12_goOut_86 (by decide) ?_ ?_
    · exact JO_retv (pc := 156) rfl dX12_goOut_156
    · refine JO_aload_n (pc := 89) dX12_goOut_89 rfl ?_
      refine JO_getR (pc := 90) fl_X12_120 rfl fkX12_meets dX12_goOut_90 ?_
      refine JO_iload_n (pc := 93) dX12_goOut_93 rfl ?_
      refine JO_zald (pc := 94) akX12_meets dX12_goOut_94 ?_
      refine JO_if_eq (pc := 95) (tgt := 107) dX12_goOut_95 (by decide) ?_ ?_
      · refine JO_aload_n (pc := 107) dX12_goOut_107 rfl ?_
        refine JO_getR (pc := 108) fl_X12_102 rfl fkX12_stand dX12_goOut_108 ?_
        refine JO_iload_n (pc := 111) dX12_goOut_111 rfl ?_
        refine JO_iald (pc := 112) akX12_stand dX12_goOut_112 ?_
        refine JO_aload_n (pc := 113) dX12_goOut_113 rfl ?_
        refine JO_iload_n (pc := 114) dX12_goOut_114 rfl ?_
        refine JO_callVi (pc := 115) [.int x1] lk_X12_450 rfl (ci := 12) rfl shX12 (w_X12_goal G d x1 σ) rfl rfl (Nat.le_of_ble_eq_true rfl) dX12_goOut_115 (fun r6 => ?_)
        refine JO_callSi (pc := 118) [.int (σ.1 1029 x1.toNatClampNeg), .int r6.1] lk_X12_453 rfl (w_X12_nearer G (d + 1) (σ.1 1029 x1.toNatClampNeg) r6.1 r6.2) rfl rfl (Nat.le_of_ble_eq_true rfl) dX12_goOut_118 (fun r7 => ?_)
        exact JO_sub (l_sub_some (l_sub_some (l_sub_none (l_sub_nil)))) (w_X12_goOut_121 G d _ (ih) x1 r7.1 r7.2)
      · refine JO_aload_n (pc := 98) dX12_goOut_98 rfl ?_
        refine JO_getR (pc := 99) fl_X12_102 rfl fkX12_stand dX12_goOut_99 ?_
        refine JO_iload_n (pc := 102) dX12_goOut_102 rfl ?_
        refine JO_iald (pc := 103) akX12_stand dX12_goOut_103 ?_
        refine JO_goto (pc := 104) (tgt := 121) dX12_goOut_104 (by decide) ?_
        exact JO_sub (l_sub_some (l_sub_some (l_sub_none (l_sub_nil)))) (w_X12_goOut_121 G d _ (ih) x1 (σ.1 1029 x1.toNatClampNeg) σ)
set_option maxHeartbeats 4000000 in
set_option maxRecDepth 100000 in
theorem w_X12_goOut_2 (G : JG) (d : Nat) : ∀ (n : Nat) (x1 : Int32) (σ : Mem), JO G mX12_goOut (d + 2) 2 [some (.ref (G.1 + off 1000)), some (.int x1), none] [] σ rV (X12_goOut_2 n x1 σ) := by
  intro n
  induction n with
  | zero =>
    intro x1 σ
    exact JO_none
  | succ n ih =>
    intro x1 σ
    rw [X12_goOut_2]
    refine JO_iload_n (pc := 2) dX12_goOut_2 rfl ?_
    refine JO_aload_n (pc := 3) dX12_goOut_3 rfl ?_
    refine JO_getI (pc := 4) fl_X12_401 rfl fkX12_people dX12_goOut_4 ?_
    refine JO_icmp_ge (pc := 7) (tgt := 79) dX12_goOut_7 (by decide) ?_ ?_
    · refine JO_iconst (pc := 79) (a := 0) dX12_goOut_79 (by decide) ?_
      refine JO_nm (fun v2 => ?_)
      refine JO_istore_n (pc := 80) (L' := [some (.ref (G.1 + off 1000)), some (.int v2), none]) dX12_goOut_80 rfl rfl rfl ?_
      exact JO_sub (l_sub_some (l_sub_some (l_sub_none (l_sub_nil)))) (w_X12_goOut_81 G d fu v2 σ)
    · refine JO_aload_n (pc := 10) dX12_goOut_10 rfl ?_
      refine JO_getR (pc := 11) fl_X12_105 rfl fkX12_aim dX12_goOut_11 ?_
      refine JO_iload_n (pc := 14) dX12_goOut_14 rfl ?_
      refine JO_iald (pc := 15) akX12_aim dX12_goOut_15 ?_
      refine JO_nm (fun v3 => ?_)
      refine JO_istore_n (pc := 16) (L' := [some (.ref (G.1 + off 1000)), some (.int x1), some (.int v3)]) dX12_goOut_16 rfl rfl rfl ?_
      refine JO_aload_n (pc := 17) dX12_goOut_17 rfl ?_
      refine JO_getR (pc := 18) fl_X12_120 rfl fkX12_meets dX12_goOut_18 ?_
      refine JO_iload_n (pc := 21) dX12_goOut_21 rfl ?_
      refine JO_iload_n (pc := 22) dX12_goOut_22 rfl ?_
      refine JO_if_lt (pc := 23) (tgt := 71) dX12_goOut_23 (by decide) ?_ ?_
      · exact JO_sub (l_sub_some (l_sub_some (l_sub_none (l_sub_nil)))) (w_X12_goOut_71 G d _ (w_X12_goOut_72 G d _ (ih)) x1 x1 σ)
      · refine JO_aload_n (pc := 26) dX12_goOut_26 rfl ?_
        refine JO_getR (pc := 27) fl_X12_105 rfl fkX12_aim dX12_goOut_27 ?_
        refine JO_iload_n (pc := 30) dX12_goOut_30 rfl ?_
        refine JO_iald (pc := 31) akX12_aim dX12_goOut_31 ?_
        refine JO_iload_n (pc := 32) dX12_goOut_32 rfl ?_
        refine JO_icmp_ne (pc := 33) (tgt := 71) dX12_goOut_33 (by decide) ?_ ?_
        · exact JO_sub (l_sub_some (l_sub_some (l_sub_none (l_sub_nil)))) (w_X12_goOut_71 G d _ (w_X12_goOut_72 G d _ (ih)) x1 x1 σ)
        · refine JO_aload_n (pc := 36) dX12_goOut_36 rfl ?_
          refine JO_getR (pc := 37) fl_X12_102 rfl fkX12_stand dX12_goOut_37 ?_
          refine JO_iload_n (pc := 40) dX12_goOut_40 rfl ?_
          refine JO_iald (pc := 41) akX12_stand dX12_goOut_41 ?_
          refine JO_aload_n (pc := 42) dX12_goOut_42 rfl ?_
          refine JO_getR (pc := 43) fl_X12_102 rfl fkX12_stand dX12_goOut_43 ?_
          refine JO_iload_n (pc := 46) dX12_goOut_46 rfl ?_
          refine JO_iald (pc := 47) akX12_stand dX12_goOut_47 ?_
          refine JO_icmp_ne (pc := 48) (tgt := 71) dX12_goOut_48 (by decide) ?_ ?_
          · exact JO_sub (l_sub_some (l_sub_some (l_sub_none (l_sub_nil)))) (w_X12_goOut_71 G d _ (w_X12_goOut_72 G d _ (ih)) x1 x1 σ)
          · refine JO_aload_n (pc := 51) dX12_goOut_51 rfl ?_
            refine JO_iload_n (pc := 52) dX12_goOut_52 rfl ?_
            refine JO_callVi (pc := 53) [.int x1] lk_X12_447 rfl (ci := 12) rfl shX12 (w_X12_doesRest G (d + 1) x1 σ) rfl rfl (Nat.le_of_ble_eq_true rfl) dX12_goOut_53 (fun r4 => ?_)
            refine JO_if_ne (pc := 56) (tgt := 71) dX12_goOut_56 (by decide) ?_ ?_
            · exact JO_sub (l_sub_some (l_sub_some (l_sub_none (l_sub_nil)))) (w_X12_goOut_71 G d _ (w_X12_goOut_72 G d _ (ih)) x1 x1 r4.2)
            · refine JO_aload_n (pc := 59) dX12_goOut_59 rfl ?_
              refine JO_iload_n (pc := 60) dX12_goOut_60 rfl ?_
              refine JO_callVi (pc := 61) [.int v3] lk_X12_447 rfl (ci := 12) rfl shX12 (w_X12_doesRest G (d + 1) v3 r4.2) rfl rfl (Nat.le_of_ble_eq_true rfl) dX12_goOut_61 (fun r5 => ?_)
              refine JO_if_ne (pc := 64) (tgt := 71) dX12_goOut_64 (by decide) ?_ ?_
              · exact JO_sub (l_sub_some (l_sub_some (l_sub_none (l_sub_nil)))) (w_X12_goOut_71 G d _ (w_X12_goOut_72 G d _ (ih)) x1 x1 r5.2)
              · refine JO_iconst (pc := 67) (a := 1) dX12_goOut_67 (by decide) ?_
                refine JO_goto (pc := 68) (tgt := 72) dX12_goOut_68 (by decide) ?_
                exact JO_sub (l_sub_some (l_sub_some (l_sub_none (l_sub_nil)))) (w_X12_goOut_72 G d _ (ih) x1 1 x1 r5.2)
set_option maxHeartbeats 4000000 in
set_option maxRecDepth 100000 in
theorem w_X12_goOut (G : JG) (d : Nat) (σ : Mem) : JS G mX12_goOut (d + 2) [.ref (G.1 + off 1000)] σ rV (X12_goOut σ) := by
  refine JS_of 2 (by decide +kernel) (Nat.le_of_ble_eq_true rfl) (L := [some (.ref (G.1 + off 1000)), none, none]) rfl ?_
  unfold X12_goOut
  refine JO_iconst (pc := 0) (a := 0) dX12_goOut_0 (by decide) ?_
  refine JO_nm (fun v1 => ?_)
  refine JO_istore_n (pc := 1) (L' := [some (.ref (G.1 + off 1000)), some (.int v1), none]) dX12_goOut_1 rfl rfl rfl ?_
  exact JO_sub (l_sub_some (l_sub_some (l_sub_none (l_sub_nil)))) (w_X12_goOut_2 G d fu v1 σ)
set_option maxHeartbeats 4000000 in
set_option maxRecDepth 100000 in
theorem w_X12_isOpen (G : JG) (d : Nat) (x1 : Int32) (σ : Mem) : JS G mX12_isOpen d [.ref (G.1 + off 1000), .int x1] σ rI (X12_isOpen x1 σ) := by
  refine JS_of 0 (by decide +kernel) (Nat.le_of_ble_eq_true rfl) (L := [some (.ref (G.1 + off 1000)), some (.int x1)]) rfl ?_
  unfold X12_isOpen
  refine JO_aload_n (pc := 0) dX12_isOpen_0 rfl ?_
  refine JO_getI (pc := 1) fl_X12_438 rfl fkX12_hour dX12_isOpen_1 ?_
  refine JO_aload_n (pc := 4) dX12_isOpen_4 rfl ?_
  refine JO_getR (pc := 5) fl_X12_117 rfl fkX12_openFrom dX12_isOpen_5 ?_
  refine JO_iload_n (pc := 8) dX12_isOpen_8 rfl ?_
  refine JO_iald (pc := 9) akX12_openFrom dX12_isOpen_9 ?_
  refine JO_icmp_lt (pc := 10) (tgt := 44) dX12_isOpen_10 (by decide) ?_ ?_
  · refine JO_iconst (pc := 44) (a := 0) dX12_isOpen_44 (by decide) ?_
    exact JO_retzc (pc := 45) (by decide) rfl dX12_isOpen_45
  · refine JO_aload_n (pc := 13) dX12_isOpen_13 rfl ?_
    refine JO_getI (pc := 14) fl_X12_438 rfl fkX12_hour dX12_isOpen_14 ?_
    refine JO_aload_n (pc := 17) dX12_isOpen_17 rfl ?_
    refine JO_getR (pc := 18) fl_X12_117 rfl fkX12_openFrom dX12_isOpen_18 ?_
    refine JO_iload_n (pc := 21) dX12_isOpen_21 rfl ?_
    refine JO_iald (pc := 22) akX12_openFrom dX12_isOpen_22 ?_
    refine JO_aload_n (pc := 23) dX12_isOpen_23 rfl ?_
    refine JO_getR (pc := 24) fl_X12_78 rfl fkX12_until dX12_isOpen_24 ?_
    refine JO_iload_n (pc := 27) dX12_isOpen_27 rfl ?_
    refine JO_iald (pc := 28) akX12_until dX12_isOpen_28 ?_
    refine JO_iadd (pc := 29) dX12_isOpen_29 ?_
    refine JO_aload_n (pc := 30) dX12_isOpen_30 rfl ?_
    refine JO_getR (pc := 31) fl_X12_75 rfl fkX12_from dX12_isOpen_31 ?_
    refine JO_iload_n (pc := 34) dX12_isOpen_34 rfl ?_
    refine JO_iald (pc := 35) akX12_from dX12_isOpen_35 ?_
    refine JO_isub (pc := 36) dX12_isOpen_36 ?_
    refine JO_icmp_ge (pc := 37) (tgt := 44) dX12_isOpen_37 (by decide) ?_ ?_
    · refine JO_iconst (pc := 44) (a := 0) dX12_isOpen_44 (by decide) ?_
      exact JO_retzc (pc := 45) (by decide) rfl dX12_isOpen_45
    · refine JO_iconst (pc := 40) (a := 1) dX12_isOpen_40 (by decide) ?_
      refine JO_goto (pc := 41) (tgt := 45) dX12_isOpen_41 (by decide) ?_
      exact JO_retzc (pc := 45) (by decide) rfl dX12_isOpen_45
set_option maxHeartbeats 4000000 in
set_option maxRecDepth 100000 in
theorem w_X12_doesWait (G : JG) (d : Nat) (x1 : Int32) (σ : Mem) : JS G mX12_doesWait (d + 1) [.ref (G.1 + off 1000), .int x1] σ rI (X12_doesWait x1 σ) := by
  refine JS_of 0 (by decide +kernel) (Nat.le_of_ble_eq_true rfl) (L := [some (.ref (G.1 + off 1000)), some (.int x1)]) rfl ?_
  unfold X12_doesWait
  refine JO_aload_n (pc := 0) dX12_doesWait_0 rfl ?_
  refine JO_getR (pc := 1) fl_X12_120 rfl fkX12_meets dX12_doesWait_1 ?_
  refine JO_iload_n (pc := 4) dX12_doesWait_4 rfl ?_
  refine JO_zald (pc := 5) akX12_meets dX12_doesWait_5 ?_
  refine JO_if_ne (pc := 6) (tgt := 48) dX12_doesWait_6 (by decide) ?_ ?_
  · refine JO_iconst (pc := 48) (a := 1) dX12_doesWait_48 (by decide) ?_
    refine JO_goto (pc := 49) (tgt := 53) dX12_doesWait_49 (by decide) ?_
    exact JO_retzc (pc := 53) (by decide) rfl dX12_doesWait_53
  · refine JO_aload_n (pc := 9) dX12_doesWait_9 rfl ?_
    refine JO_iload_n (pc := 10) dX12_doesWait_10 rfl ?_
    refine JO_callVi (pc := 11) [.int x1] lk_X12_447 rfl (ci := 12) rfl shX12 (w_X12_doesRest G d x1 σ) rfl rfl (Nat.le_of_ble_eq_true rfl) dX12_doesWait_11 (fun r1 => ?_)
    refine JO_if_ne (pc := 14) (tgt := 52) dX12_doesWait_14 (by decide) ?_ ?_
    · refine JO_iconst (pc := 52) (a := 0) dX12_doesWait_52 (by decide) ?_
      exact JO_retzc (pc := 53) (by decide) rfl dX12_doesWait_53
    · refine JO_aload_n (pc := 17) dX12_doesWait_17 rfl ?_
      refine JO_getR (pc := 18) fl_X12_124 rfl fkX12_went dX12_doesWait_18 ?_
      refine JO_iload_n (pc := 21) dX12_doesWait_21 rfl ?_
      refine JO_zald (pc := 22) akX12_went dX12_doesWait_22 ?_
      refine JO_if_ne (pc := 23) (tgt := 52) dX12_doesWait_23 (by decide) ?_ ?_
      · refine JO_iconst (pc := 52) (a := 0) dX12_doesWait_52 (by decide) ?_
        exact JO_retzc (pc := 53) (by decide) rfl dX12_doesWait_53
      · refine JO_aload_n (pc := 26) dX12_doesWait_26 rfl ?_
        refine JO_getR (pc := 27) fl_X12_105 rfl fkX12_aim dX12_doesWait_27 ?_
        refine JO_iload_n (pc := 30) dX12_doesWait_30 rfl ?_
        refine JO_iald (pc := 31) akX12_aim dX12_doesWait_31 ?_
        refine JO_if_lt (pc := 32) (tgt := 52) dX12_doesWait_32 (by decide) ?_ ?_
        · refine JO_iconst (pc := 52) (a := 0) dX12_doesWait_52 (by decide) ?_
          exact JO_retzc (pc := 53) (by decide) rfl dX12_doesWait_53
        · refine JO_aload_n (pc := 35) dX12_doesWait_35 rfl ?_
          refine JO_aload_n (pc := 36) dX12_doesWait_36 rfl ?_
          refine JO_getR (pc := 37) fl_X12_105 rfl fkX12_aim dX12_doesWait_37 ?_
          refine JO_iload_n (pc := 40) dX12_doesWait_40 rfl ?_
          refine JO_iald (pc := 41) akX12_aim dX12_doesWait_41 ?_
          refine JO_callVi (pc := 42) [.int (r1.2.1 1030 x1.toNatClampNeg)] lk_X12_456 rfl (ci := 12) rfl shX12 (w_X12_isOpen G d (r1.2.1 1030 x1.toNatClampNeg) r1.2) rfl rfl (Nat.le_of_ble_eq_true rfl) dX12_doesWait_42 (fun r2 => ?_)
          refine JO_if_eq (pc := 45) (tgt := 52) dX12_doesWait_45 (by decide) ?_ ?_
          · refine JO_iconst (pc := 52) (a := 0) dX12_doesWait_52 (by decide) ?_
            exact JO_retzc (pc := 53) (by decide) rfl dX12_doesWait_53
          · refine JO_iconst (pc := 48) (a := 1) dX12_doesWait_48 (by decide) ?_
            refine JO_goto (pc := 49) (tgt := 53) dX12_doesWait_49 (by decide) ?_
            exact JO_retzc (pc := 53) (by decide) rfl dX12_doesWait_53
set_option maxHeartbeats 4000000 in
set_option maxRecDepth 100000 in
theorem w_X12_atDoor (G : JG) (d : Nat) (x1 : Int32) (x2 : Int32) (σ : Mem) : JS G mX12_atDoor d [.ref (G.1 + off 1000), .int x1, .int x2] σ rI (X12_atDoor x1 x2 σ) := by
  refine JS_of 0 (by decide +kernel) (Nat.le_of_ble_eq_true rfl) (L := [some (.ref (G.1 + off 1000)), some (.int x1), some (.int x2)]) rfl ?_
  unfold X12_atDoor
  refine JO_aload_n (pc := 0) dX12_atDoor_0 rfl ?_
  refine JO_getR (pc := 1) fl_X12_127 rfl fkX12_waits dX12_atDoor_1 ?_
  refine JO_iload_n (pc := 4) dX12_atDoor_4 rfl ?_
  refine JO_zald (pc := 5) akX12_waits dX12_atDoor_5 ?_
  refine JO_if_eq (pc := 6) (tgt := 32) dX12_atDoor_6 (by decide) ?_ ?_
  · refine JO_iconst (pc := 32) (a := 0) dX12_atDoor_32 (by decide) ?_
    exact JO_retzc (pc := 33) (by decide) rfl dX12_atDoor_33
  · refine JO_aload_n (pc := 9) dX12_atDoor_9 rfl ?_
    refine JO_getR (pc := 10) fl_X12_120 rfl fkX12_meets dX12_atDoor_10 ?_
    refine JO_iload_n (pc := 13) dX12_atDoor_13 rfl ?_
    refine JO_zald (pc := 14) akX12_meets dX12_atDoor_14 ?_
    refine JO_if_ne (pc := 15) (tgt := 32) dX12_atDoor_15 (by decide) ?_ ?_
    · refine JO_iconst (pc := 32) (a := 0) dX12_atDoor_32 (by decide) ?_
      exact JO_retzc (pc := 33) (by decide) rfl dX12_atDoor_33
    · refine JO_aload_n (pc := 18) dX12_atDoor_18 rfl ?_
      refine JO_getR (pc := 19) fl_X12_105 rfl fkX12_aim dX12_atDoor_19 ?_
      refine JO_iload_n (pc := 22) dX12_atDoor_22 rfl ?_
      refine JO_iald (pc := 23) akX12_aim dX12_atDoor_23 ?_
      refine JO_iload_n (pc := 24) dX12_atDoor_24 rfl ?_
      refine JO_icmp_ne (pc := 25) (tgt := 32) dX12_atDoor_25 (by decide) ?_ ?_
      · refine JO_iconst (pc := 32) (a := 0) dX12_atDoor_32 (by decide) ?_
        exact JO_retzc (pc := 33) (by decide) rfl dX12_atDoor_33
      · refine JO_iconst (pc := 28) (a := 1) dX12_atDoor_28 (by decide) ?_
        refine JO_goto (pc := 29) (tgt := 33) dX12_atDoor_29 (by decide) ?_
        exact JO_retzc (pc := 33) (by decide) rfl dX12_atDoor_33
set_option maxHeartbeats 4000000 in
set_option maxRecDepth 100000 in
theorem w_X12_isSeated_4 (G : JG) (d : Nat) : ∀ (n : Nat) (x1 : Int32) (x2 : Int32) (x3 : Int32) (σ : Mem), JO G mX12_isSeated (d + 1) 4 [some (.ref (G.1 + off 1000)), some (.int x1), some (.int x2), some (.int x3)] [] σ rI (X12_isSeated_4 n x1 x2 x3 σ) := by
  intro n
  induction n with
  | zero =>
    intro x1 x2 x3 σ
    exact JO_none
  | succ n ih =>
    intro x1 x2 x3 σ
    rw [X12_isSeated_4]
    refine JO_iload_n (pc := 4) dX12_isSeated_4 rfl ?_
    refine JO_iload_n (pc := 5) dX12_isSeated_5 rfl ?_
    refine JO_icmp_ge (pc := 6) (tgt := 32) dX12_isSeated_6 (by decide) ?_ ?_
    · refine JO_aload_n (pc := 32) dX12_isSeated_32 rfl ?_
      refine JO_getR (pc := 33) fl_X12_120 rfl fkX12_meets dX12_isSeated_33 ?_
      refine JO_iload_n (pc := 36) dX12_isSeated_36 rfl ?_
      refine JO_zald (pc := 37) akX12_meets dX12_isSeated_37 ?_
      refine JO_if_ne (pc := 38) (tgt := 60) dX12_isSeated_38 (by decide) ?_ ?_
      · refine JO_iconst (pc := 60) (a := 0) dX12_isSeated_60 (by decide) ?_
        exact JO_retzc (pc := 61) (by decide) rfl dX12_isSeated_61
      · refine JO_iload_n (pc := 41) dX12_isSeated_41 rfl ?_
        refine JO_aload_n (pc := 42) dX12_isSeated_42 rfl ?_
        refine JO_getR (pc := 43) fl_X12_81 rfl fkX12_chairs dX12_isSeated_43 ?_
        refine JO_aload_n (pc := 46) dX12_isSeated_46 rfl ?_
        refine JO_getR (pc := 47) fl_X12_105 rfl fkX12_aim dX12_isSeated_47 ?_
        refine JO_iload_n (pc := 50) dX12_isSeated_50 rfl ?_
        refine JO_iald (pc := 51) akX12_aim dX12_isSeated_51 ?_
        refine JO_iald (pc := 52) akX12_chairs dX12_isSeated_52 ?_
        refine JO_icmp_ge (pc := 53) (tgt := 60) dX12_isSeated_53 (by decide) ?_ ?_
        · refine JO_iconst (pc := 60) (a := 0) dX12_isSeated_60 (by decide) ?_
          exact JO_retzc (pc := 61) (by decide) rfl dX12_isSeated_61
        · refine JO_iconst (pc := 56) (a := 1) dX12_isSeated_56 (by decide) ?_
          refine JO_goto (pc := 57) (tgt := 61) dX12_isSeated_57 (by decide) ?_
          exact JO_retzc (pc := 61) (by decide) rfl dX12_isSeated_61
    · refine JO_iload_n (pc := 9) dX12_isSeated_9 rfl ?_
      refine JO_aload_n (pc := 10) dX12_isSeated_10 rfl ?_
      refine JO_iload_n (pc := 11) dX12_isSeated_11 rfl ?_
      refine JO_aload_n (pc := 12) dX12_isSeated_12 rfl ?_
      refine JO_getR (pc := 13) fl_X12_105 rfl fkX12_aim dX12_isSeated_13 ?_
      refine JO_iload_n (pc := 16) dX12_isSeated_16 rfl ?_
      refine JO_iald (pc := 17) akX12_aim dX12_isSeated_17 ?_
      refine JO_callVi (pc := 18) [.int x3, .int (σ.1 1030 x1.toNatClampNeg)] lk_X12_459 rfl (ci := 12) rfl shX12 (w_X12_atDoor G d x3 (σ.1 1030 x1.toNatClampNeg) σ) rfl rfl (Nat.le_of_ble_eq_true rfl) dX12_isSeated_18 (fun r3 => ?_)
      refine JO_callSi (pc := 21) [.int r3.1] lk_X12_343 rfl (w_X12_truth G d r3.1 r3.2) rfl rfl (Nat.le_of_ble_eq_true rfl) dX12_isSeated_21 (fun r4 => ?_)
      refine JO_iadd (pc := 24) dX12_isSeated_24 ?_
      refine JO_nm (fun v5 => ?_)
      refine JO_istore_n (pc := 25) (L' := [some (.ref (G.1 + off 1000)), some (.int x1), some (.int v5), some (.int x3)]) dX12_isSeated_25 rfl rfl rfl ?_
      refine JO_inc (pc := 26) (b := 1) (L' := fun v6 => [some (.ref (G.1 + off 1000)), some (.int x1), some (.int v5), some (.int v6)]) dX12_isSeated_26 rfl rfl (by decide) rfl (fun _ => rfl) (fun v6 => ?_)
      refine JO_goto (pc := 29) (tgt := 4) dX12_isSeated_29 (by decide) ?_
      exact JO_sub (l_sub_some (l_sub_some (l_sub_some (l_sub_some (l_sub_nil))))) (ih x1 v5 v6 r4.2)
set_option maxHeartbeats 4000000 in
set_option maxRecDepth 100000 in
theorem w_X12_isSeated (G : JG) (d : Nat) (x1 : Int32) (σ : Mem) : JS G mX12_isSeated (d + 1) [.ref (G.1 + off 1000), .int x1] σ rI (X12_isSeated x1 σ) := by
  refine JS_of 2 (by decide +kernel) (Nat.le_of_ble_eq_true rfl) (L := [some (.ref (G.1 + off 1000)), some (.int x1), none, none]) rfl ?_
  unfold X12_isSeated
  refine JO_iconst (pc := 0) (a := 0) dX12_isSeated_0 (by decide) ?_
  refine JO_nm (fun v1 => ?_)
  refine JO_istore_n (pc := 1) (L' := [some (.ref (G.1 + off 1000)), some (.int x1), some (.int v1), none]) dX12_isSeated_1 rfl rfl rfl ?_
  refine JO_iconst (pc := 2) (a := 0) dX12_isSeated_2 (by decide) ?_
  refine JO_nm (fun v2 => ?_)
  refine JO_istore_n (pc := 3) (L' := [some (.ref (G.1 + off 1000)), some (.int x1), some (.int v1), some (.int v2)]) dX12_isSeated_3 rfl rfl rfl ?_
  exact JO_sub (l_sub_some (l_sub_some (l_sub_some (l_sub_some (l_sub_nil))))) (w_X12_isSeated_4 G d fu x1 v1 v2 σ)
set_option maxHeartbeats 4000000 in
set_option maxRecDepth 100000 in
theorem w_X12_pay_300 (G : JG) (d : Nat) : ∀ (x1 : Int32) (x2 : Int32) (x5 : Int32) (σ : Mem), JO G mX12_pay (d + 4) 300 [some (.ref (G.1 + off 1000)), some (.int x1), some (.int x2), none, none, some (.int x5)] [] σ rV (X12_pay_300 x1 x2 x5 σ) := by
  intro x1 x2 x5 σ
  unfold X12_pay_300
  refine JO_aload_n (pc := 300) dX12_pay_300 rfl ?_
  refine JO_getR (pc := 301) fl_X12_130 rfl fkX12_paid dX12_pay_301 ?_
  refine JO_iload_n (pc := 304) dX12_pay_304 rfl ?_
  refine JO_iload (pc := 305) dX12_pay_305 rfl ?_
  refine JO_iast (pc := 307) akX12_paid dX12_pay_307 (fun σ20 => ?_)
  refine JO_aload_n (pc := 308) dX12_pay_308 rfl ?_
  refine JO_getR (pc := 309) fl_X12_114 rfl fkX12_owed dX12_pay_309 ?_
  refine JO_iload_n (pc := 312) dX12_pay_312 rfl ?_
  refine JO_dup2 (pc := 313) dX12_pay_313 rfl rfl ?_
  refine JO_iald (pc := 314) akX12_owed dX12_pay_314 ?_
  refine JO_iload (pc := 315) dX12_pay_315 rfl ?_
  refine JO_isub (pc := 317) dX12_pay_317 ?_
  refine JO_iast (pc := 318) akX12_owed dX12_pay_318 (fun σ21 => ?_)
  exact JO_retv (pc := 319) rfl dX12_pay_319
set_option maxHeartbeats 4000000 in
set_option maxRecDepth 100000 in
theorem w_X12_pay_260 (G : JG) (d : Nat) : ∀ (x1 : Int32) (x2 : Int32) (x4 : Int32) (x5 : Int32) (σ : Mem), JO G mX12_pay (d + 4) 260 [some (.ref (G.1 + off 1000)), some (.int x1), some (.int x2), none, some (.int x4), some (.int x5)] [] σ rV (X12_pay_260 x1 x2 x4 x5 σ) := by
  intro x1 x2 x4 x5 σ
  unfold X12_pay_260
  refine JO_iload (pc := 260) dX12_pay_260 rfl ?_
  refine JO_if_eq (pc := 262) (tgt := 300) dX12_pay_262 (by decide) ?_ ?_
  · exact JO_sub (l_sub_some (l_sub_some (l_sub_some (l_sub_none (l_sub_none (l_sub_some (l_sub_nil))))))) (w_X12_pay_300 G d x1 x2 x5 σ)
  · refine JO_aload_n (pc := 265) dX12_pay_265 rfl ?_
    refine JO_getR (pc := 266) fl_X12_111 rfl fkX12_coin dX12_pay_266 ?_
    refine JO_aload_n (pc := 269) dX12_pay_269 rfl ?_
    refine JO_getR (pc := 270) fl_X12_108 rfl fkX12_whom dX12_pay_270 ?_
    refine JO_iload_n (pc := 273) dX12_pay_273 rfl ?_
    refine JO_iald (pc := 274) akX12_whom dX12_pay_274 ?_
    refine JO_nm (fun v17 => ?_)
    refine JO_dup2 (pc := 275) dX12_pay_275 rfl rfl ?_
    refine JO_iald (pc := 276) akX12_coin dX12_pay_276 ?_
    refine JO_aload_n (pc := 277) dX12_pay_277 rfl ?_
    refine JO_getR (pc := 278) fl_X12_87 rfl fkX12_price dX12_pay_278 ?_
    refine JO_iload_n (pc := 281) dX12_pay_281 rfl ?_
    refine JO_iald (pc := 282) akX12_price dX12_pay_282 ?_
    refine JO_isub (pc := 283) dX12_pay_283 ?_
    refine JO_iast (pc := 284) akX12_coin dX12_pay_284 (fun σ18 => ?_)
    refine JO_aload_n (pc := 285) dX12_pay_285 rfl ?_
    refine JO_getR (pc := 286) fl_X12_111 rfl fkX12_coin dX12_pay_286 ?_
    refine JO_iload_n (pc := 289) dX12_pay_289 rfl ?_
    refine JO_dup2 (pc := 290) dX12_pay_290 rfl rfl ?_
    refine JO_iald (pc := 291) akX12_coin dX12_pay_291 ?_
    refine JO_aload_n (pc := 292) dX12_pay_292 rfl ?_
    refine JO_getR (pc := 293) fl_X12_87 rfl fkX12_price dX12_pay_293 ?_
    refine JO_iload_n (pc := 296) dX12_pay_296 rfl ?_
    refine JO_iald (pc := 297) akX12_price dX12_pay_297 ?_
    refine JO_iadd (pc := 298) dX12_pay_298 ?_
    refine JO_iast (pc := 299) akX12_coin dX12_pay_299 (fun σ19 => ?_)
    exact JO_sub (l_sub_some (l_sub_some (l_sub_some (l_sub_none (l_sub_none (l_sub_some (l_sub_nil))))))) (w_X12_pay_300 G d x1 x2 x5 σ19)
set_option maxHeartbeats 4000000 in
set_option maxRecDepth 100000 in
theorem w_X12_pay_227 (G : JG) (d : Nat) : ∀ (x1 : Int32) (x2 : Int32) (x4 : Int32) (s0 : Int32) (σ : Mem), JO G mX12_pay (d + 4) 227 [some (.ref (G.1 + off 1000)), some (.int x1), some (.int x2), none, some (.int x4), none] [.int s0] σ rV (X12_pay_227 x1 x2 x4 s0 σ) := by
  intro x1 x2 x4 s0 σ
  unfold X12_pay_227
  refine JO_istore (pc := 227) (L' := [some (.ref (G.1 + off 1000)), some (.int x1), some (.int x2), none, some (.int x4), some (.int s0)]) dX12_pay_227 rfl rfl rfl ?_
  refine JO_iload (pc := 229) dX12_pay_229 rfl ?_
  refine JO_if_eq (pc := 231) (tgt := 259) dX12_pay_231 (by decide) ?_ ?_
  · exact JO_retv (pc := 259) rfl dX12_pay_259
  · refine JO_iload (pc := 234) dX12_pay_234 rfl ?_
    refine JO_if_eq (pc := 236) (tgt := 260) dX12_pay_236 (by decide) ?_ ?_
    · exact JO_sub (l_sub_some (l_sub_some (l_sub_some (l_sub_none (l_sub_some (l_sub_some (l_sub_nil))))))) (w_X12_pay_260 G d x1 x2 x4 s0 σ)
    · refine JO_aload_n (pc := 239) dX12_pay_239 rfl ?_
      refine JO_getR (pc := 240) fl_X12_111 rfl fkX12_coin dX12_pay_240 ?_
      refine JO_aload_n (pc := 243) dX12_pay_243 rfl ?_
      refine JO_getR (pc := 244) fl_X12_108 rfl fkX12_whom dX12_pay_244 ?_
      refine JO_iload_n (pc := 247) dX12_pay_247 rfl ?_
      refine JO_iald (pc := 248) akX12_whom dX12_pay_248 ?_
      refine JO_iald (pc := 249) akX12_coin dX12_pay_249 ?_
      refine JO_aload_n (pc := 250) dX12_pay_250 rfl ?_
      refine JO_getR (pc := 251) fl_X12_87 rfl fkX12_price dX12_pay_251 ?_
      refine JO_iload_n (pc := 254) dX12_pay_254 rfl ?_
      refine JO_iald (pc := 255) akX12_price dX12_pay_255 ?_
      refine JO_icmp_ge (pc := 256) (tgt := 260) dX12_pay_256 (by decide) ?_ ?_
      · exact JO_sub (l_sub_some (l_sub_some (l_sub_some (l_sub_none (l_sub_some (l_sub_some (l_sub_nil))))))) (w_X12_pay_260 G d x1 x2 x4 s0 σ)
      · exact JO_retv (pc := 259) rfl dX12_pay_259
set_option maxHeartbeats 4000000 in
set_option maxRecDepth 100000 in
theorem w_X12_pay_203 (G : JG) (d : Nat) : ∀ (x1 : Int32) (x2 : Int32) (x4 : Int32) (s0 : Int32) (σ : Mem), JO G mX12_pay (d + 4) 203 [some (.ref (G.1 + off 1000)), some (.int x1), some (.int x2), none, some (.int x4), none] [.int s0] σ rV (X12_pay_203 x1 x2 x4 s0 σ) := by
  intro x1 x2 x4 s0 σ
  unfold X12_pay_203
  refine JO_istore (pc := 203) (L' := [some (.ref (G.1 + off 1000)), some (.int x1), some (.int x2), none, some (.int x4), some (.int s0)]) dX12_pay_203 rfl rfl rfl ?_
  refine JO_iload (pc := 205) dX12_pay_205 rfl ?_
  refine JO_aload_n (pc := 207) dX12_pay_207 rfl ?_
  refine JO_getR (pc := 208) fl_X12_114 rfl fkX12_owed dX12_pay_208 ?_
  refine JO_iload_n (pc := 211) dX12_pay_211 rfl ?_
  refine JO_iald (pc := 212) akX12_owed dX12_pay_212 ?_
  refine JO_icmp_le (pc := 213) (tgt := 225) dX12_pay_213 (by decide) ?_ ?_
  · refine JO_iload (pc := 225) dX12_pay_225 rfl ?_
    exact JO_sub (l_sub_some (l_sub_some (l_sub_some (l_sub_none (l_sub_some (l_sub_none (l_sub_nil))))))) (w_X12_pay_227 G d x1 x2 x4 s0 σ)
  · refine JO_aload_n (pc := 216) dX12_pay_216 rfl ?_
    refine JO_getR (pc := 217) fl_X12_114 rfl fkX12_owed dX12_pay_217 ?_
    refine JO_iload_n (pc := 220) dX12_pay_220 rfl ?_
    refine JO_iald (pc := 221) akX12_owed dX12_pay_221 ?_
    refine JO_goto (pc := 222) (tgt := 227) dX12_pay_222 (by decide) ?_
    exact JO_sub (l_sub_some (l_sub_some (l_sub_some (l_sub_none (l_sub_some (l_sub_none (l_sub_nil))))))) (w_X12_pay_227 G d x1 x2 x4 (σ.1 1033 x2.toNatClampNeg) σ)
set_option maxHeartbeats 4000000 in
set_option maxRecDepth 100000 in
theorem w_X12_pay_176 (G : JG) (d : Nat) : ∀ (x1 : Int32) (x2 : Int32) (x4 : Int32) (s0 : Int32) (σ : Mem), JO G mX12_pay (d + 4) 176 [some (.ref (G.1 + off 1000)), some (.int x1), some (.int x2), none, some (.int x4), none] [.int s0] σ rV (X12_pay_176 x1 x2 x4 s0 σ) := by
  intro x1 x2 x4 s0 σ
  unfold X12_pay_176
  refine JO_istore (pc := 176) (L' := [some (.ref (G.1 + off 1000)), some (.int x1), some (.int x2), none, some (.int x4), some (.int s0)]) dX12_pay_176 rfl rfl rfl ?_
  refine JO_iload (pc := 178) dX12_pay_178 rfl ?_
  refine JO_if_ge (pc := 180) (tgt := 187) dX12_pay_180 (by decide) ?_ ?_
  · refine JO_iload (pc := 187) dX12_pay_187 rfl ?_
    refine JO_sipush (pc := 189) (a := 240) dX12_pay_189 (by decide) ?_
    refine JO_icmp_le (pc := 192) (tgt := 201) dX12_pay_192 (by decide) ?_ ?_
    · refine JO_iload (pc := 201) dX12_pay_201 rfl ?_
      exact JO_sub (l_sub_some (l_sub_some (l_sub_some (l_sub_none (l_sub_some (l_sub_none (l_sub_nil))))))) (w_X12_pay_203 G d x1 x2 x4 s0 σ)
    · refine JO_sipush (pc := 195) (a := 240) dX12_pay_195 (by decide) ?_
      refine JO_goto (pc := 198) (tgt := 203) dX12_pay_198 (by decide) ?_
      exact JO_sub (l_sub_some (l_sub_some (l_sub_some (l_sub_none (l_sub_some (l_sub_none (l_sub_nil))))))) (w_X12_pay_203 G d x1 x2 x4 240 σ)
  · refine JO_iconst (pc := 183) (a := 0) dX12_pay_183 (by decide) ?_
    refine JO_goto (pc := 184) (tgt := 203) dX12_pay_184 (by decide) ?_
    exact JO_sub (l_sub_some (l_sub_some (l_sub_some (l_sub_none (l_sub_some (l_sub_none (l_sub_nil))))))) (w_X12_pay_203 G d x1 x2 x4 0 σ)
set_option maxHeartbeats 4000000 in
set_option maxRecDepth 100000 in
theorem w_X12_pay_77 (G : JG) (d : Nat) : ∀ (x1 : Int32) (x2 : Int32) (x3 : Int32) (s0 : Int32) (σ : Mem), JO G mX12_pay (d + 4) 77 [some (.ref (G.1 + off 1000)), some (.int x1), some (.int x2), some (.int x3), none, none] [.int s0] σ rV (X12_pay_77 x1 x2 x3 s0 σ) := by
  intro x1 x2 x3 s0 σ
  unfold X12_pay_77
  refine JO_istore (pc := 77) (L' := [some (.ref (G.1 + off 1000)), some (.int x1), some (.int x2), some (.int x3), some (.int s0), none]) dX12_pay_77 rfl rfl rfl ?_
  refine JO_aload_n (pc := 79) dX12_pay_79 rfl ?_
  refine JO_getR (pc := 80) fl_X12_45 rfl fkX12_asks dX12_pay_80 ?_
  refine JO_iconst (pc := 83) (a := 0) dX12_pay_83 (by decide) ?_
  refine JO_aload_n (pc := 84) dX12_pay_84 rfl ?_
  refine JO_getR (pc := 85) fl_X12_114 rfl fkX12_owed dX12_pay_85 ?_
  refine JO_iload_n (pc := 88) dX12_pay_88 rfl ?_
  refine JO_iald (pc := 89) akX12_owed dX12_pay_89 ?_
  refine JO_iastc (pc := 90) (k := 0) akX12_asks (by decide) (by decide) dX12_pay_90 (fun σ5 => ?_)
  refine JO_aload_n (pc := 91) dX12_pay_91 rfl ?_
  refine JO_getR (pc := 92) fl_X12_45 rfl fkX12_asks dX12_pay_92 ?_
  refine JO_iconst (pc := 95) (a := 1) dX12_pay_95 (by decide) ?_
  refine JO_aload_n (pc := 96) dX12_pay_96 rfl ?_
  refine JO_getI (pc := 97) fl_X12_435 rfl fkX12_date dX12_pay_97 ?_
  refine JO_iastc (pc := 100) (k := 1) akX12_asks (by decide) (by decide) dX12_pay_100 (fun σ6 => ?_)
  refine JO_aload_n (pc := 101) dX12_pay_101 rfl ?_
  refine JO_getR (pc := 102) fl_X12_45 rfl fkX12_asks dX12_pay_102 ?_
  refine JO_iconst (pc := 105) (a := 2) dX12_pay_105 (by decide) ?_
  refine JO_aload_n (pc := 106) dX12_pay_106 rfl ?_
  refine JO_getI (pc := 107) fl_X12_438 rfl fkX12_hour dX12_pay_107 ?_
  refine JO_iastc (pc := 110) (k := 2) akX12_asks (by decide) (by decide) dX12_pay_110 (fun σ7 => ?_)
  refine JO_aload_n (pc := 111) dX12_pay_111 rfl ?_
  refine JO_getR (pc := 112) fl_X12_45 rfl fkX12_asks dX12_pay_112 ?_
  refine JO_iconst (pc := 115) (a := 3) dX12_pay_115 (by decide) ?_
  refine JO_iload_n (pc := 116) dX12_pay_116 rfl ?_
  refine JO_iastc (pc := 117) (k := 3) akX12_asks (by decide) (by decide) dX12_pay_117 (fun σ8 => ?_)
  refine JO_aload_n (pc := 118) dX12_pay_118 rfl ?_
  refine JO_getR (pc := 119) fl_X12_45 rfl fkX12_asks dX12_pay_119 ?_
  refine JO_iconst (pc := 122) (a := 4) dX12_pay_122 (by decide) ?_
  refine JO_aload_n (pc := 123) dX12_pay_123 rfl ?_
  refine JO_iload_n (pc := 124) dX12_pay_124 rfl ?_
  refine JO_callVi (pc := 125) [.int x1] lk_X12_466 rfl (ci := 12) rfl shX12 (w_X12_isSeated G (d + 2) x1 σ8) rfl rfl (Nat.le_of_ble_eq_true rfl) dX12_pay_125 (fun r9 => ?_)
  refine JO_callSi (pc := 128) [.int r9.1] lk_X12_343 rfl (w_X12_truth G (d + 3) r9.1 r9.2) rfl rfl (Nat.le_of_ble_eq_true rfl) dX12_pay_128 (fun r10 => ?_)
  refine JO_iastc (pc := 131) (k := 4) akX12_asks (by decide) (by decide) dX12_pay_131 (fun σ11 => ?_)
  refine JO_aload_n (pc := 132) dX12_pay_132 rfl ?_
  refine JO_getR (pc := 133) fl_X12_45 rfl fkX12_asks dX12_pay_133 ?_
  refine JO_iconst (pc := 136) (a := 5) dX12_pay_136 (by decide) ?_
  refine JO_aload_n (pc := 137) dX12_pay_137 rfl ?_
  refine JO_getR (pc := 138) fl_X12_120 rfl fkX12_meets dX12_pay_138 ?_
  refine JO_iload_n (pc := 141) dX12_pay_141 rfl ?_
  refine JO_zald (pc := 142) akX12_meets dX12_pay_142 ?_
  refine JO_callSi (pc := 143) [.int (σ11.1 1035 x1.toNatClampNeg)] lk_X12_343 rfl (w_X12_truth G (d + 3) (σ11.1 1035 x1.toNatClampNeg) σ11) rfl rfl (Nat.le_of_ble_eq_true rfl) dX12_pay_143 (fun r12 => ?_)
  refine JO_iastc (pc := 146) (k := 5) akX12_asks (by decide) (by decide) dX12_pay_146 (fun σ13 => ?_)
  refine JO_aload_n (pc := 147) dX12_pay_147 rfl ?_
  refine JO_getR (pc := 148) fl_X12_45 rfl fkX12_asks dX12_pay_148 ?_
  refine JO_bipush (pc := 151) (a := 6) dX12_pay_151 (by decide) ?_
  refine JO_iload (pc := 153) dX12_pay_153 rfl ?_
  refine JO_callSi (pc := 155) [.int s0] lk_X12_343 rfl (w_X12_truth G (d + 3) s0 σ13) rfl rfl (Nat.le_of_ble_eq_true rfl) dX12_pay_155 (fun r14 => ?_)
  refine JO_iastc (pc := 158) (k := 6) akX12_asks (by decide) (by decide) dX12_pay_158 (fun σ15 => ?_)
  refine JO_aload_n (pc := 159) dX12_pay_159 rfl ?_
  refine JO_getI (pc := 160) fl_X12_404 rfl fkX12_hasLaw dX12_pay_160 ?_
  refine JO_if_eq (pc := 163) (tgt := 174) dX12_pay_163 (by decide) ?_ ?_
  · refine JO_bipush (pc := 174) (a := 60) dX12_pay_174 (by decide) ?_
    exact JO_sub (l_sub_some (l_sub_some (l_sub_some (l_sub_none (l_sub_some (l_sub_none (l_sub_nil))))))) (w_X12_pay_176 G d x1 x2 s0 60 σ15)
  · refine JO_aload_n (pc := 166) dX12_pay_166 rfl ?_
    refine JO_iconst (pc := 167) (a := 0) dX12_pay_167 (by decide) ?_
    refine JO_callVi (pc := 168) [.int 0] lk_X12_444 rfl (ci := 12) rfl shX12 (w_X12_worked G (d + 1) 0 σ15) rfl rfl (Nat.le_of_ble_eq_true rfl) dX12_pay_168 (fun r16 => ?_)
    refine JO_goto (pc := 171) (tgt := 176) dX12_pay_171 (by decide) ?_
    exact JO_sub (l_sub_some (l_sub_some (l_sub_some (l_sub_none (l_sub_some (l_sub_none (l_sub_nil))))))) (w_X12_pay_176 G d x1 x2 s0 r16.1 r16.2)
set_option maxHeartbeats 4000000 in
set_option maxRecDepth 100000 in
theorem w_X12_pay (G : JG) (d : Nat) (x1 : Int32) (σ : Mem) : JS G mX12_pay (d + 4) [.ref (G.1 + off 1000), .int x1] σ rV (X12_pay x1 σ) := by
  refine JS_of 4 (by decide +kernel) (Nat.le_of_ble_eq_true rfl) (L := [some (.ref (G.1 + off 1000)), some (.int x1), none, none, none, none]) rfl ?_
  unfold X12_pay
  refine JO_aload_n (pc := 0) dX12_pay_0 rfl ?_
  refine JO_getR (pc := 1) fl_X12_130 rfl fkX12_paid dX12_pay_1 ?_
  refine JO_iload_n (pc := 4) dX12_pay_4 rfl ?_
  refine JO_iconst (pc := 5) (a := 0) dX12_pay_5 (by decide) ?_
  refine JO_iast (pc := 6) akX12_paid dX12_pay_6 (fun σ1 => ?_)
  refine JO_aload_n (pc := 7) dX12_pay_7 rfl ?_
  refine JO_getR (pc := 8) fl_X12_127 rfl fkX12_waits dX12_pay_8 ?_
  refine JO_iload_n (pc := 11) dX12_pay_11 rfl ?_
  refine JO_zald (pc := 12) akX12_waits dX12_pay_12 ?_
  refine JO_if_eq (pc := 13) (tgt := 31) dX12_pay_13 (by decide) ?_ ?_
  · exact JO_retv (pc := 31) rfl dX12_pay_31
  · refine JO_aload_n (pc := 16) dX12_pay_16 rfl ?_
    refine JO_getR (pc := 17) fl_X12_108 rfl fkX12_whom dX12_pay_17 ?_
    refine JO_iload_n (pc := 20) dX12_pay_20 rfl ?_
    refine JO_iald (pc := 21) akX12_whom dX12_pay_21 ?_
    refine JO_aload_n (pc := 22) dX12_pay_22 rfl ?_
    refine JO_getR (pc := 23) fl_X12_105 rfl fkX12_aim dX12_pay_23 ?_
    refine JO_iload_n (pc := 26) dX12_pay_26 rfl ?_
    refine JO_iald (pc := 27) akX12_aim dX12_pay_27 ?_
    refine JO_icmp_ne (pc := 28) (tgt := 32) dX12_pay_28 (by decide) ?_ ?_
    · refine JO_bipush (pc := 32) (a := 6) dX12_pay_32 (by decide) ?_
      refine JO_aload_n (pc := 34) dX12_pay_34 rfl ?_
      refine JO_getR (pc := 35) fl_X12_108 rfl fkX12_whom dX12_pay_35 ?_
      refine JO_iload_n (pc := 38) dX12_pay_38 rfl ?_
      refine JO_iald (pc := 39) akX12_whom dX12_pay_39 ?_
      refine JO_imul (pc := 40) dX12_pay_40 ?_
      refine JO_aload_n (pc := 41) dX12_pay_41 rfl ?_
      refine JO_getR (pc := 42) fl_X12_105 rfl fkX12_aim dX12_pay_42 ?_
      refine JO_iload_n (pc := 45) dX12_pay_45 rfl ?_
      refine JO_iald (pc := 46) akX12_aim dX12_pay_46 ?_
      refine JO_iadd (pc := 47) dX12_pay_47 ?_
      refine JO_nm (fun v2 => ?_)
      refine JO_istore_n (pc := 48) (L' := [some (.ref (G.1 + off 1000)), some (.int x1), some (.int v2), none, none, none]) dX12_pay_48 rfl rfl rfl ?_
      refine JO_aload_n (pc := 49) dX12_pay_49 rfl ?_
      refine JO_aload_n (pc := 50) dX12_pay_50 rfl ?_
      refine JO_getI (pc := 51) fl_X12_435 rfl fkX12_date dX12_pay_51 ?_
      refine JO_aload_n (pc := 54) dX12_pay_54 rfl ?_
      refine JO_getI (pc := 55) fl_X12_438 rfl fkX12_hour dX12_pay_55 ?_
      refine JO_callVi (pc := 58) [.int (σ1.1 1000 62), .int (σ1.1 1000 63)] lk_X12_463 rfl (ci := 12) rfl shX12 (w_X12_wetAt G d (σ1.1 1000 62) (σ1.1 1000 63) σ1) rfl rfl (Nat.le_of_ble_eq_true rfl) dX12_pay_58 (fun r3 => ?_)
      refine JO_nm (fun v4 => ?_)
      refine JO_istore_n (pc := 61) (L' := [some (.ref (G.1 + off 1000)), some (.int x1), some (.int v2), some (.int v4), none, none]) dX12_pay_61 rfl rfl rfl ?_
      refine JO_aload_n (pc := 62) dX12_pay_62 rfl ?_
      refine JO_getR (pc := 63) fl_X12_108 rfl fkX12_whom dX12_pay_63 ?_
      refine JO_iload_n (pc := 66) dX12_pay_66 rfl ?_
      refine JO_iald (pc := 67) akX12_whom dX12_pay_67 ?_
      refine JO_iload_n (pc := 68) dX12_pay_68 rfl ?_
      refine JO_icmp_eq (pc := 69) (tgt := 76) dX12_pay_69 (by decide) ?_ ?_
      · refine JO_iconst (pc := 76) (a := 0) dX12_pay_76 (by decide) ?_
        exact JO_sub (l_sub_some (l_sub_some (l_sub_some (l_sub_some (l_sub_none (l_sub_none (l_sub_nil))))))) (w_X12_pay_77 G d x1 v2 v4 0 r3.2)
      · refine JO_iconst (pc := 72) (a := 1) dX12_pay_72 (by decide) ?_
        refine JO_goto (pc := 73) (tgt := 77) dX12_pay_73 (by decide) ?_
        exact JO_sub (l_sub_some (l_sub_some (l_sub_some (l_sub_some (l_sub_none (l_sub_none (l_sub_nil))))))) (w_X12_pay_77 G d x1 v2 v4 1 r3.2)
    · exact JO_retv (pc := 31) rfl dX12_pay_31
