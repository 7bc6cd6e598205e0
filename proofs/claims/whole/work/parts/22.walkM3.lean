set_option maxHeartbeats 4000000 in
set_option maxRecDepth 100000 in
theorem w_X12_plan_137 (G : JG) (d : Nat) (k174 : Int32 → Int32 → Int32 → Int32 → Mem → Option (Int32 × Mem)) (hk174 : ∀ (x1 : Int32) (x2 : Int32) (x3 : Int32) (x4 : Int32) (σ : Mem), JO G mX12_plan (d + 7) 174 [some (.ref (G.1 + off 1000)), some (.int x1), some (.int x2), some (.int x3), some (.int x4), none, none] [] σ rI (k174 x1 x2 x3 x4 σ)) : ∀ (n : Nat) (x1 : Int32) (x2 : Int32) (x3 : Int32) (x4 : Int32) (x6 : Int32) (σ : Mem), JO G mX12_plan (d + 7) 137 [some (.ref (G.1 + off 1000)), some (.int x1), some (.int x2), some (.int x3), some (.int x4), none, some (.int x6)] [] σ rI (X12_plan_137 k174 n x1 x2 x3 x4 x6 σ) := by
  intro n
  induction n with
  | zero =>
    intro x1 x2 x3 x4 x6 σ
    exact JO_none
  | succ n ih =>
    intro x1 x2 x3 x4 x6 σ
    rw [X12_plan_137]
    refine JO_iload (pc := 137) dX12_plan_137 rfl ?_
    refine JO_aload_n (pc := 139) dX12_plan_139 rfl ?_
    refine JO_getI (pc := 140) fl_X12_521 rfl fkX12_creditorMany dX12_plan_140 ?_
    refine JO_icmp_ge (pc := 143) (tgt := 166) dX12_plan_143 (by decide) ?_ ?_
    · refine JO_aload_n (pc := 166) dX12_plan_166 rfl ?_
      refine JO_aload_n (pc := 167) dX12_plan_167 rfl ?_
      refine JO_getI (pc := 168) fl_X12_521 rfl fkX12_creditorMany dX12_plan_168 ?_
      refine JO_putI (pc := 171) fl_X12_425 rfl fkX12_lain dX12_plan_171 (fun σ17 => ?_)
      exact JO_sub (l_sub_some (l_sub_some (l_sub_some (l_sub_some (l_sub_some (l_sub_none (l_sub_none (l_sub_nil)))))))) (hk174 x1 x2 x3 x4 σ17)
    · refine JO_aload_n (pc := 146) dX12_plan_146 rfl ?_
      refine JO_getR (pc := 147) fl_X12_142 rfl fkX12_lies dX12_plan_147 ?_
      refine JO_iload (pc := 150) dX12_plan_150 rfl ?_
      refine JO_aload_n (pc := 152) dX12_plan_152 rfl ?_
      refine JO_getR (pc := 153) fl_X12_139 rfl fkX12_order dX12_plan_153 ?_
      refine JO_iload (pc := 156) dX12_plan_156 rfl ?_
      refine JO_iald (pc := 158) akX12_order dX12_plan_158 ?_
      refine JO_iast (pc := 159) akX12_lies dX12_plan_159 (fun σ18 => ?_)
      refine JO_inc (pc := 160) (b := 1) (L' := fun v19 => [some (.ref (G.1 + off 1000)), some (.int x1), some (.int x2), some (.int x3), some (.int x4), none, some (.int v19)]) dX12_plan_160 rfl rfl (by decide) rfl (fun _ => rfl) (fun v19 => ?_)
      refine JO_goto (pc := 163) (tgt := 137) dX12_plan_163 (by decide) ?_
      exact JO_sub (l_sub_some (l_sub_some (l_sub_some (l_sub_some (l_sub_some (l_sub_none (l_sub_some (l_sub_nil)))))))) (ih x1 x2 x3 x4 v19 σ18)
set_option maxHeartbeats 4000000 in
set_option maxRecDepth 100000 in
theorem w_X12_plan_174 (G : JG) (d : Nat) (k102 : Int32 → Int32 → Int32 → Int32 → Mem → Option (Int32 × Mem)) (hk102 : ∀ (x1 : Int32) (x2 : Int32) (x3 : Int32) (x4 : Int32) (σ : Mem), JO G mX12_plan (d + 7) 102 [some (.ref (G.1 + off 1000)), some (.int x1), some (.int x2), some (.int x3), some (.int x4), none, none] [] σ rI (k102 x1 x2 x3 x4 σ)) : ∀ (x1 : Int32) (x2 : Int32) (x3 : Int32) (x4 : Int32) (σ : Mem), JO G mX12_plan (d + 7) 174 [some (.ref (G.1 + off 1000)), some (.int x1), some (.int x2), some (.int x3), some (.int x4), none, none] [] σ rI (X12_plan_174 k102 x1 x2 x3 x4 σ) := by
  intro x1 x2 x3 x4 σ
  unfold X12_plan_174
  refine JO_inc (pc := 174) (b := 1) (L' := fun v20 => [some (.ref (G.1 + off 1000)), some (.int x1), some (.int x2), some (.int x3), some (.int v20), none, none]) dX12_plan_174 rfl rfl (by decide) rfl (fun _ => rfl) (fun v20 => ?_)
  refine JO_goto (pc := 177) (tgt := 102) dX12_plan_177 (by decide) ?_
  exact JO_sub (l_sub_some (l_sub_some (l_sub_some (l_sub_some (l_sub_some (l_sub_none (l_sub_none (l_sub_nil)))))))) (hk102 x1 x2 x3 v20 σ)
set_option maxHeartbeats 4000000 in
set_option maxRecDepth 100000 in
theorem w_X12_plan_80 (G : JG) (d : Nat) (k28 : Int32 → Int32 → Int32 → Mem → Option (Int32 × Mem)) (hk28 : ∀ (x1 : Int32) (x2 : Int32) (x3 : Int32) (σ : Mem), JO G mX12_plan (d + 7) 28 [some (.ref (G.1 + off 1000)), some (.int x1), some (.int x2), some (.int x3), none, none, none] [] σ rI (k28 x1 x2 x3 σ)) : ∀ (x1 : Int32) (x2 : Int32) (x3 : Int32) (σ : Mem), JO G mX12_plan (d + 7) 80 [some (.ref (G.1 + off 1000)), some (.int x1), some (.int x2), some (.int x3), none, none, none] [] σ rI (X12_plan_80 k28 x1 x2 x3 σ) := by
  intro x1 x2 x3 σ
  unfold X12_plan_80
  refine JO_inc (pc := 80) (b := 1) (L' := fun v16 => [some (.ref (G.1 + off 1000)), some (.int x1), some (.int x2), some (.int v16), none, none, none]) dX12_plan_80 rfl rfl (by decide) rfl (fun _ => rfl) (fun v16 => ?_)
  refine JO_goto (pc := 83) (tgt := 28) dX12_plan_83 (by decide) ?_
  exact JO_sub (l_sub_some (l_sub_some (l_sub_some (l_sub_some (l_sub_none (l_sub_none (l_sub_none (l_sub_nil)))))))) (hk28 x1 x2 v16 σ)
set_option maxHeartbeats 4000000 in
set_option maxRecDepth 100000 in
theorem w_X12_plan_102 (G : JG) (d : Nat) : ∀ (n : Nat) (x1 : Int32) (x2 : Int32) (x3 : Int32) (x4 : Int32) (σ : Mem), JO G mX12_plan (d + 7) 102 [some (.ref (G.1 + off 1000)), some (.int x1), some (.int x2), some (.int x3), some (.int x4), none, none] [] σ rI (X12_plan_102 n x1 x2 x3 x4 σ) := by
  intro n
  induction n with
  | zero =>
    intro x1 x2 x3 x4 σ
    exact JO_none
  | succ n ih =>
    intro x1 x2 x3 x4 σ
    rw [X12_plan_102]
    refine JO_iload (pc := 102) dX12_plan_102 rfl ?_
    refine JO_iload_n (pc := 104) dX12_plan_104 rfl ?_
    refine JO_icmp_ge (pc := 105) (tgt := 180) dX12_plan_105 (by decide) ?_ ?_
    · refine JO_aload_n (pc := 180) dX12_plan_180 rfl ?_
      refine JO_getI (pc := 181) fl_X12_425 rfl fkX12_lain dX12_plan_181 ?_
      refine JO_if_ne (pc := 184) (tgt := 191) dX12_plan_184 (by decide) ?_ ?_
      · refine JO_iload_n (pc := 191) dX12_plan_191 rfl ?_
        exact JO_reti (pc := 192) rfl dX12_plan_192
      · refine JO_iconst (pc := 187) (a := (-1)) dX12_plan_187 (by decide) ?_
        refine JO_goto (pc := 188) (tgt := 192) dX12_plan_188 (by decide) ?_
        exact JO_reti (pc := 192) rfl dX12_plan_192
    · refine JO_aload_n (pc := 108) dX12_plan_108 rfl ?_
      refine JO_iload (pc := 109) dX12_plan_109 rfl ?_
      refine JO_callVv (pc := 111) [.int x4] lk_X12_524 rfl (ci := 12) rfl shX12 (w_X12_layOrder G (d + 6) x4 σ) rfl rfl (Nat.le_of_ble_eq_true rfl) dX12_plan_111 (fun σ12 => ?_)
      refine JO_aload_n (pc := 114) dX12_plan_114 rfl ?_
      refine JO_iload_n (pc := 115) dX12_plan_115 rfl ?_
      refine JO_iload_n (pc := 116) dX12_plan_116 rfl ?_
      refine JO_callVi (pc := 117) [.int x1, .int x3] lk_X12_527 rfl (ci := 12) rfl shX12 (w_X12_hoursBy G d x1 x3 σ12) rfl rfl (Nat.le_of_ble_eq_true rfl) dX12_plan_117 (fun r13 => ?_)
      refine JO_nm (fun v14 => ?_)
      refine JO_istore (pc := 120) (L' := [some (.ref (G.1 + off 1000)), some (.int x1), some (.int x2), some (.int x3), some (.int x4), some (.int v14), none]) dX12_plan_120 rfl rfl rfl ?_
      refine JO_iload (pc := 122) dX12_plan_122 rfl ?_
      refine JO_iload_n (pc := 124) dX12_plan_124 rfl ?_
      refine JO_icmp_lt (pc := 125) (tgt := 131) dX12_plan_125 (by decide) ?_ ?_
      · refine JO_iload (pc := 131) dX12_plan_131 rfl ?_
        refine JO_istore_n (pc := 133) (L' := [some (.ref (G.1 + off 1000)), some (.int x1), some (.int x2), some (.int v14), some (.int x4), some (.int v14), none]) dX12_plan_133 rfl rfl rfl ?_
        refine JO_iconst (pc := 134) (a := 0) dX12_plan_134 (by decide) ?_
        refine JO_nm (fun v15 => ?_)
        refine JO_istore (pc := 135) (L' := [some (.ref (G.1 + off 1000)), some (.int x1), some (.int x2), some (.int v14), some (.int x4), some (.int v14), some (.int v15)]) dX12_plan_135 rfl rfl rfl ?_
        exact JO_sub (l_sub_some (l_sub_some (l_sub_some (l_sub_some (l_sub_some (l_sub_none (l_sub_some (l_sub_nil)))))))) (w_X12_plan_137 G d _ (w_X12_plan_174 G d _ (ih)) fu x1 x2 v14 x4 v15 r13.2)
      · refine JO_goto (pc := 128) (tgt := 174) dX12_plan_128 (by decide) ?_
        exact JO_sub (l_sub_some (l_sub_some (l_sub_some (l_sub_some (l_sub_some (l_sub_none (l_sub_none (l_sub_nil)))))))) (w_X12_plan_174 G d _ (ih) x1 x2 x3 x4 r13.2)
set_option maxHeartbeats 4000000 in
set_option maxRecDepth 100000 in
theorem w_X12_plan_28 (G : JG) (d : Nat) : ∀ (n : Nat) (x1 : Int32) (x2 : Int32) (x3 : Int32) (σ : Mem), JO G mX12_plan (d + 7) 28 [some (.ref (G.1 + off 1000)), some (.int x1), some (.int x2), some (.int x3), none, none, none] [] σ rI (X12_plan_28 n x1 x2 x3 σ) := by
  intro n
  induction n with
  | zero =>
    intro x1 x2 x3 σ
    exact JO_none
  | succ n ih =>
    intro x1 x2 x3 σ
    rw [X12_plan_28]
    refine JO_iload_n (pc := 28) dX12_plan_28 rfl ?_
    refine JO_aload_n (pc := 29) dX12_plan_29 rfl ?_
    refine JO_getI (pc := 30) fl_X12_401 rfl fkX12_people dX12_plan_30 ?_
    refine JO_icmp_ge (pc := 33) (tgt := 86) dX12_plan_33 (by decide) ?_ ?_
    · refine JO_aload_n (pc := 86) dX12_plan_86 rfl ?_
      refine JO_getI (pc := 87) fl_X12_521 rfl fkX12_creditorMany dX12_plan_87 ?_
      refine JO_if_ne (pc := 90) (tgt := 95) dX12_plan_90 (by decide) ?_ ?_
      · refine JO_sipush (pc := 95) (a := 301) dX12_plan_95 (by decide) ?_
        refine JO_nm (fun v7 => ?_)
        refine JO_istore_n (pc := 98) (L' := [some (.ref (G.1 + off 1000)), some (.int x1), some (.int x2), some (.int v7), none, none, none]) dX12_plan_98 rfl rfl rfl ?_
        refine JO_iconst (pc := 99) (a := 0) dX12_plan_99 (by decide) ?_
        refine JO_nm (fun v8 => ?_)
        refine JO_istore (pc := 100) (L' := [some (.ref (G.1 + off 1000)), some (.int x1), some (.int x2), some (.int v7), some (.int v8), none, none]) dX12_plan_100 rfl rfl rfl ?_
        exact JO_sub (l_sub_some (l_sub_some (l_sub_some (l_sub_some (l_sub_some (l_sub_none (l_sub_none (l_sub_nil)))))))) (w_X12_plan_102 G d fu x1 x2 v7 v8 σ)
      · refine JO_iconst (pc := 93) (a := 0) dX12_plan_93 (by decide) ?_
        exact JO_reti (pc := 94) rfl dX12_plan_94
    · refine JO_aload_n (pc := 36) dX12_plan_36 rfl ?_
      refine JO_getR (pc := 37) fl_X12_114 rfl fkX12_owed dX12_plan_37 ?_
      refine JO_bipush (pc := 40) (a := 6) dX12_plan_40 (by decide) ?_
      refine JO_iload_n (pc := 42) dX12_plan_42 rfl ?_
      refine JO_imul (pc := 43) dX12_plan_43 ?_
      refine JO_iload_n (pc := 44) dX12_plan_44 rfl ?_
      refine JO_iadd (pc := 45) dX12_plan_45 ?_
      refine JO_iald (pc := 46) akX12_owed dX12_plan_46 ?_
      refine JO_if_ne (pc := 47) (tgt := 53) dX12_plan_47 (by decide) ?_ ?_
      · refine JO_aload_n (pc := 53) dX12_plan_53 rfl ?_
        refine JO_getR (pc := 54) fl_X12_136 rfl fkX12_creditors dX12_plan_54 ?_
        refine JO_aload_n (pc := 57) dX12_plan_57 rfl ?_
        refine JO_getI (pc := 58) fl_X12_521 rfl fkX12_creditorMany dX12_plan_58 ?_
        refine JO_iload_n (pc := 61) dX12_plan_61 rfl ?_
        refine JO_iast (pc := 62) akX12_creditors dX12_plan_62 (fun σ9 => ?_)
        refine JO_aload_n (pc := 63) dX12_plan_63 rfl ?_
        refine JO_dup (pc := 64) dX12_plan_64 rfl ?_
        refine JO_getI (pc := 65) fl_X12_521 rfl fkX12_creditorMany dX12_plan_65 ?_
        refine JO_iconst (pc := 68) (a := 1) dX12_plan_68 (by decide) ?_
        refine JO_iadd (pc := 69) dX12_plan_69 ?_
        refine JO_putI (pc := 70) fl_X12_521 rfl fkX12_creditorMany dX12_plan_70 (fun σ10 => ?_)
        refine JO_iload_n (pc := 73) dX12_plan_73 rfl ?_
        refine JO_aload_n (pc := 74) dX12_plan_74 rfl ?_
        refine JO_getI (pc := 75) fl_X12_521 rfl fkX12_creditorMany dX12_plan_75 ?_
        refine JO_imul (pc := 78) dX12_plan_78 ?_
        refine JO_nm (fun v11 => ?_)
        refine JO_istore_n (pc := 79) (L' := [some (.ref (G.1 + off 1000)), some (.int x1), some (.int v11), some (.int x3), none, none, none]) dX12_plan_79 rfl rfl rfl ?_
        exact JO_sub (l_sub_some (l_sub_some (l_sub_some (l_sub_some (l_sub_none (l_sub_none (l_sub_none (l_sub_nil)))))))) (w_X12_plan_80 G d _ (ih) x1 v11 x3 σ10)
      · refine JO_goto (pc := 50) (tgt := 80) dX12_plan_50 (by decide) ?_
        exact JO_sub (l_sub_some (l_sub_some (l_sub_some (l_sub_some (l_sub_none (l_sub_none (l_sub_none (l_sub_nil)))))))) (w_X12_plan_80 G d _ (ih) x1 x2 x3 σ)
set_option maxHeartbeats 4000000 in
set_option maxRecDepth 100000 in
theorem w_X12_plan (G : JG) (d : Nat) (x1 : Int32) (σ : Mem) : JS G mX12_plan (d + 7) [.ref (G.1 + off 1000), .int x1] σ rI (X12_plan x1 σ) := by
  refine JS_of 5 (by decide +kernel) (Nat.le_of_ble_eq_true rfl) (L := [some (.ref (G.1 + off 1000)), some (.int x1), none, none, none, none, none]) rfl ?_
  unfold X12_plan
  refine JO_aload_n (pc := 0) dX12_plan_0 rfl ?_
  refine JO_iconst (pc := 1) (a := 0) dX12_plan_1 (by decide) ?_
  refine JO_putI (pc := 2) fl_X12_425 rfl fkX12_lain dX12_plan_2 (fun σ1 => ?_)
  refine JO_aload_n (pc := 5) dX12_plan_5 rfl ?_
  refine JO_iload_n (pc := 6) dX12_plan_6 rfl ?_
  refine JO_callVi (pc := 7) [.int x1] lk_X12_432 rfl (ci := 12) rfl shX12 (w_X12_isPerson G (d + 5) x1 σ1) rfl rfl (Nat.le_of_ble_eq_true rfl) dX12_plan_7 (fun r2 => ?_)
  refine JO_if_ne (pc := 10) (tgt := 15) dX12_plan_10 (by decide) ?_ ?_
  · refine JO_aload_n (pc := 15) dX12_plan_15 rfl ?_
    refine JO_callVv (pc := 16) [] lk_X12_487 rfl (ci := 12) rfl shX12 (w_X12_load G (d + 6)  r2.2) rfl rfl (Nat.le_of_ble_eq_true rfl) dX12_plan_16 (fun σ3 => ?_)
    refine JO_aload_n (pc := 19) dX12_plan_19 rfl ?_
    refine JO_iconst (pc := 20) (a := 0) dX12_plan_20 (by decide) ?_
    refine JO_putI (pc := 21) fl_X12_521 rfl fkX12_creditorMany dX12_plan_21 (fun σ4 => ?_)
    refine JO_iconst (pc := 24) (a := 1) dX12_plan_24 (by decide) ?_
    refine JO_nm (fun v5 => ?_)
    refine JO_istore_n (pc := 25) (L' := [some (.ref (G.1 + off 1000)), some (.int x1), some (.int v5), none, none, none, none]) dX12_plan_25 rfl rfl rfl ?_
    refine JO_iconst (pc := 26) (a := 0) dX12_plan_26 (by decide) ?_
    refine JO_nm (fun v6 => ?_)
    refine JO_istore_n (pc := 27) (L' := [some (.ref (G.1 + off 1000)), some (.int x1), some (.int v5), some (.int v6), none, none, none]) dX12_plan_27 rfl rfl rfl ?_
    exact JO_sub (l_sub_some (l_sub_some (l_sub_some (l_sub_some (l_sub_none (l_sub_none (l_sub_none (l_sub_nil)))))))) (w_X12_plan_28 G d fu x1 v5 v6 σ4)
  · refine JO_iconst (pc := 13) (a := (-1)) dX12_plan_13 (by decide) ?_
    exact JO_reti (pc := 14) rfl dX12_plan_14
set_option maxHeartbeats 4000000 in
set_option maxRecDepth 100000 in
theorem w_X12_rings (G : JG) (d : Nat) (σ : Mem) : JS G mX12_rings (d + 3) [.ref (G.1 + off 1000)] σ rI (X12_rings σ) := by
  refine JS_of 0 (by decide +kernel) (Nat.le_of_ble_eq_true rfl) (L := [some (.ref (G.1 + off 1000))]) rfl ?_
  unfold X12_rings
  refine JO_aload_n (pc := 0) dX12_rings_0 rfl ?_
  refine JO_callVv (pc := 1) [] lk_X12_503 rfl (ci := 12) rfl shX12 (w_X12_layRings G d  σ) rfl rfl (Nat.le_of_ble_eq_true rfl) dX12_rings_1 (fun σ1 => ?_)
  refine JO_aload_n (pc := 4) dX12_rings_4 rfl ?_
  refine JO_getI (pc := 5) fl_X12_506 rfl fkX12_ringMany dX12_rings_5 ?_
  exact JO_reti (pc := 8) rfl dX12_rings_8
set_option maxHeartbeats 4000000 in
set_option maxRecDepth 100000 in
theorem w_X12_ring_14 (G : JG) (d : Nat) : ∀ (n : Nat) (x1 : Int32) (σ : Mem), JO G mX12_ring (d + 3) 14 [some (.ref (G.1 + off 1000)), some (.int x1)] [] σ rI (X12_ring_14 n x1 σ) := by
  intro n
  induction n with
  | zero =>
    intro x1 σ
    exact JO_none
  | succ n ih =>
    intro x1 σ
    rw [X12_ring_14]
    refine JO_iload_n (pc := 14) dX12_ring_14 rfl ?_
    refine JO_aload_n (pc := 15) dX12_ring_15 rfl ?_
    refine JO_getI (pc := 16) fl_X12_512 rfl fkX12_bestSize dX12_ring_16 ?_
    refine JO_icmp_ge (pc := 19) (tgt := 40) dX12_ring_19 (by decide) ?_ ?_
    · refine JO_aload_n (pc := 40) dX12_ring_40 rfl ?_
      refine JO_getI (pc := 41) fl_X12_509 rfl fkX12_bestFrees dX12_ring_41 ?_
      exact JO_reti (pc := 44) rfl dX12_ring_44
    · refine JO_aload_n (pc := 22) dX12_ring_22 rfl ?_
      refine JO_getR (pc := 23) fl_X12_142 rfl fkX12_lies dX12_ring_23 ?_
      refine JO_iload_n (pc := 26) dX12_ring_26 rfl ?_
      refine JO_aload_n (pc := 27) dX12_ring_27 rfl ?_
      refine JO_getR (pc := 28) fl_X12_148 rfl fkX12_best dX12_ring_28 ?_
      refine JO_iload_n (pc := 31) dX12_ring_31 rfl ?_
      refine JO_iald (pc := 32) akX12_best dX12_ring_32 ?_
      refine JO_iast (pc := 33) akX12_lies dX12_ring_33 (fun σ4 => ?_)
      refine JO_inc (pc := 34) (b := 1) (L' := fun v5 => [some (.ref (G.1 + off 1000)), some (.int v5)]) dX12_ring_34 rfl rfl (by decide) rfl (fun _ => rfl) (fun v5 => ?_)
      refine JO_goto (pc := 37) (tgt := 14) dX12_ring_37 (by decide) ?_
      exact JO_sub (l_sub_some (l_sub_some (l_sub_nil))) (ih v5 σ4)
set_option maxHeartbeats 4000000 in
set_option maxRecDepth 100000 in
theorem w_X12_ring (G : JG) (d : Nat) (σ : Mem) : JS G mX12_ring (d + 3) [.ref (G.1 + off 1000)] σ rI (X12_ring σ) := by
  refine JS_of 1 (by decide +kernel) (Nat.le_of_ble_eq_true rfl) (L := [some (.ref (G.1 + off 1000)), none]) rfl ?_
  unfold X12_ring
  refine JO_aload_n (pc := 0) dX12_ring_0 rfl ?_
  refine JO_callVv (pc := 1) [] lk_X12_503 rfl (ci := 12) rfl shX12 (w_X12_layRings G d  σ) rfl rfl (Nat.le_of_ble_eq_true rfl) dX12_ring_1 (fun σ1 => ?_)
  refine JO_aload_n (pc := 4) dX12_ring_4 rfl ?_
  refine JO_aload_n (pc := 5) dX12_ring_5 rfl ?_
  refine JO_getI (pc := 6) fl_X12_512 rfl fkX12_bestSize dX12_ring_6 ?_
  refine JO_putI (pc := 9) fl_X12_425 rfl fkX12_lain dX12_ring_9 (fun σ2 => ?_)
  refine JO_iconst (pc := 12) (a := 0) dX12_ring_12 (by decide) ?_
  refine JO_nm (fun v3 => ?_)
  refine JO_istore_n (pc := 13) (L' := [some (.ref (G.1 + off 1000)), some (.int v3)]) dX12_ring_13 rfl rfl rfl ?_
  exact JO_sub (l_sub_some (l_sub_some (l_sub_nil))) (w_X12_ring_14 G d fu v3 σ2)
set_option maxHeartbeats 4000000 in
set_option maxRecDepth 100000 in
theorem w_X12_owedBy (G : JG) (d : Nat) (x1 : Int32) (x2 : Int32) (x3 : Int32) (σ : Mem) : JS G mX12_owedBy (d + 7) [.ref (G.1 + off 1000), .int x1, .int x2, .int x3] σ rI (X12_owedBy x1 x2 x3 σ) := by
  refine JS_of 0 (by decide +kernel) (Nat.le_of_ble_eq_true rfl) (L := [some (.ref (G.1 + off 1000)), some (.int x1), some (.int x2), some (.int x3)]) rfl ?_
  unfold X12_owedBy
  refine JO_aload_n (pc := 0) dX12_owedBy_0 rfl ?_
  refine JO_callVv (pc := 1) [] lk_X12_487 rfl (ci := 12) rfl shX12 (w_X12_load G (d + 6)  σ) rfl rfl (Nat.le_of_ble_eq_true rfl) dX12_owedBy_1 (fun σ1 => ?_)
  refine JO_aload_n (pc := 4) dX12_owedBy_4 rfl ?_
  refine JO_getR (pc := 5) fl_X12_117 rfl fkX12_openFrom dX12_owedBy_5 ?_
  refine JO_iload_n (pc := 8) dX12_owedBy_8 rfl ?_
  refine JO_iload_n (pc := 9) dX12_owedBy_9 rfl ?_
  refine JO_iast (pc := 10) akX12_openFrom dX12_owedBy_10 (fun σ2 => ?_)
  refine JO_aload_n (pc := 11) dX12_owedBy_11 rfl ?_
  refine JO_iload_n (pc := 12) dX12_owedBy_12 rfl ?_
  refine JO_callVv (pc := 13) [.int x2] lk_X12_497 rfl (ci := 12) rfl shX12 (w_X12_goHours G d x2 σ2) rfl rfl (Nat.le_of_ble_eq_true rfl) dX12_owedBy_13 (fun σ3 => ?_)
  refine JO_aload_n (pc := 16) dX12_owedBy_16 rfl ?_
  refine JO_iload_n (pc := 17) dX12_owedBy_17 rfl ?_
  refine JO_iconst (pc := 18) (a := 1) dX12_owedBy_18 (by decide) ?_
  refine JO_callVi (pc := 19) [.int x1, .int 1] lk_X12_490 rfl (ci := 12) rfl shX12 (w_X12_sumOf G (d + 6) x1 1 σ3) rfl rfl (Nat.le_of_ble_eq_true rfl) dX12_owedBy_19 (fun r4 => ?_)
  exact JO_reti (pc := 22) rfl dX12_owedBy_22
set_option maxHeartbeats 4000000 in
set_option maxRecDepth 100000 in
theorem w_X12_hide_102 (G : JG) (d : Nat) (k51 : Int32 → Int32 → Int32 → Int32 → Int32 → Int32 → Mem → Option (Int32 × Mem)) (hk51 : ∀ (x1 : Int32) (x2 : Int32) (x3 : Int32) (x4 : Int32) (x5 : Int32) (x6 : Int32) (σ : Mem), JO G mX12_hide (d + 8) 51 [some (.ref (G.1 + off 1000)), some (.int x1), some (.int x2), some (.int x3), some (.int x4), some (.int x5), some (.int x6), none] [] σ rI (k51 x1 x2 x3 x4 x5 x6 σ)) : ∀ (x1 : Int32) (x2 : Int32) (x3 : Int32) (x4 : Int32) (x5 : Int32) (x6 : Int32) (σ : Mem), JO G mX12_hide (d + 8) 102 [some (.ref (G.1 + off 1000)), some (.int x1), some (.int x2), some (.int x3), some (.int x4), some (.int x5), some (.int x6), none] [] σ rI (X12_hide_102 k51 x1 x2 x3 x4 x5 x6 σ) := by
  intro x1 x2 x3 x4 x5 x6 σ
  unfold X12_hide_102
  refine JO_inc (pc := 102) (b := 1) (L' := fun v10 => [some (.ref (G.1 + off 1000)), some (.int x1), some (.int x2), some (.int x3), some (.int x4), some (.int x5), some (.int v10), none]) dX12_hide_102 rfl rfl (by decide) rfl (fun _ => rfl) (fun v10 => ?_)
  refine JO_goto (pc := 105) (tgt := 51) dX12_hide_105 (by decide) ?_
  exact JO_sub (l_sub_some (l_sub_some (l_sub_some (l_sub_some (l_sub_some (l_sub_some (l_sub_some (l_sub_none (l_sub_nil))))))))) (hk51 x1 x2 x3 x4 x5 v10 σ)
set_option maxHeartbeats 4000000 in
set_option maxRecDepth 100000 in
theorem w_X12_hide_51 (G : JG) (d : Nat) : ∀ (n : Nat) (x1 : Int32) (x2 : Int32) (x3 : Int32) (x4 : Int32) (x5 : Int32) (x6 : Int32) (σ : Mem), JO G mX12_hide (d + 8) 51 [some (.ref (G.1 + off 1000)), some (.int x1), some (.int x2), some (.int x3), some (.int x4), some (.int x5), some (.int x6), none] [] σ rI (X12_hide_51 n x1 x2 x3 x4 x5 x6 σ) := by
  intro n
  induction n with
  | zero =>
    intro x1 x2 x3 x4 x5 x6 σ
    exact JO_none
  | succ n ih =>
    intro x1 x2 x3 x4 x5 x6 σ
    rw [X12_hide_51]
    refine JO_iload (pc := 51) dX12_hide_51 rfl ?_
    refine JO_aload_n (pc := 53) dX12_hide_53 rfl ?_
    refine JO_getI (pc := 54) fl_X12_96 rfl fkX12_day dX12_hide_54 ?_
    refine JO_aload_n (pc := 57) dX12_hide_57 rfl ?_
    refine JO_getR (pc := 58) fl_X12_78 rfl fkX12_until dX12_hide_58 ?_
    refine JO_iload_n (pc := 61) dX12_hide_61 rfl ?_
    refine JO_iald (pc := 62) akX12_until dX12_hide_62 ?_
    refine JO_aload_n (pc := 63) dX12_hide_63 rfl ?_
    refine JO_getR (pc := 64) fl_X12_75 rfl fkX12_from dX12_hide_64 ?_
    refine JO_iload_n (pc := 67) dX12_hide_67 rfl ?_
    refine JO_iald (pc := 68) akX12_from dX12_hide_68 ?_
    refine JO_isub (pc := 69) dX12_hide_69 ?_
    refine JO_isub (pc := 70) dX12_hide_70 ?_
    refine JO_icmp_gt (pc := 71) (tgt := 108) dX12_hide_71 (by decide) ?_ ?_
    · refine JO_iload_n (pc := 108) dX12_hide_108 rfl ?_
      refine JO_if_ne (pc := 109) (tgt := 117) dX12_hide_109 (by decide) ?_ ?_
      · refine JO_iload (pc := 117) dX12_hide_117 rfl ?_
        exact JO_reti (pc := 119) rfl dX12_hide_119
      · refine JO_iload (pc := 112) dX12_hide_112 rfl ?_
        refine JO_goto (pc := 114) (tgt := 119) dX12_hide_114 (by decide) ?_
        exact JO_reti (pc := 119) rfl dX12_hide_119
    · refine JO_aload_n (pc := 74) dX12_hide_74 rfl ?_
      refine JO_iload_n (pc := 75) dX12_hide_75 rfl ?_
      refine JO_iload_n (pc := 76) dX12_hide_76 rfl ?_
      refine JO_iload (pc := 77) dX12_hide_77 rfl ?_
      refine JO_callVi (pc := 79) [.int x1, .int x2, .int x6] lk_X12_542 rfl (ci := 12) rfl shX12 (w_X12_owedBy G d x1 x2 x6 σ) rfl rfl (Nat.le_of_ble_eq_true rfl) dX12_hide_79 (fun r8 => ?_)
      refine JO_nm (fun v9 => ?_)
      refine JO_istore (pc := 82) (L' := [some (.ref (G.1 + off 1000)), some (.int x1), some (.int x2), some (.int x3), some (.int x4), some (.int x5), some (.int x6), some (.int v9)]) dX12_hide_82 rfl rfl rfl ?_
      refine JO_iload (pc := 84) dX12_hide_84 rfl ?_
      refine JO_iload (pc := 86) dX12_hide_86 rfl ?_
      refine JO_icmp_gt (pc := 88) (tgt := 94) dX12_hide_88 (by decide) ?_ ?_
      · refine JO_iload (pc := 94) dX12_hide_94 rfl ?_
        refine JO_istore (pc := 96) (L' := [some (.ref (G.1 + off 1000)), some (.int x1), some (.int x2), some (.int x3), some (.int x4), some (.int v9), some (.int x6), some (.int v9)]) dX12_hide_96 rfl rfl rfl ?_
        refine JO_iload (pc := 98) dX12_hide_98 rfl ?_
        refine JO_istore (pc := 100) (L' := [some (.ref (G.1 + off 1000)), some (.int x1), some (.int x2), some (.int x3), some (.int x6), some (.int v9), some (.int x6), some (.int v9)]) dX12_hide_100 rfl rfl rfl ?_
        exact JO_sub (l_sub_some (l_sub_some (l_sub_some (l_sub_some (l_sub_some (l_sub_some (l_sub_some (l_sub_none (l_sub_nil))))))))) (w_X12_hide_102 G d _ (ih) x1 x2 x3 x6 v9 x6 r8.2)
      · refine JO_goto (pc := 91) (tgt := 102) dX12_hide_91 (by decide) ?_
        exact JO_sub (l_sub_some (l_sub_some (l_sub_some (l_sub_some (l_sub_some (l_sub_some (l_sub_some (l_sub_none (l_sub_nil))))))))) (w_X12_hide_102 G d _ (ih) x1 x2 x3 x4 x5 x6 r8.2)
set_option maxHeartbeats 4000000 in
set_option maxRecDepth 100000 in
theorem w_X12_hide (G : JG) (d : Nat) (x1 : Int32) (x2 : Int32) (x3 : Int32) (σ : Mem) : JS G mX12_hide (d + 8) [.ref (G.1 + off 1000), .int x1, .int x2, .int x3] σ rI (X12_hide x1 x2 x3 σ) := by
  refine JS_of 4 (by decide +kernel) (Nat.le_of_ble_eq_true rfl) (L := [some (.ref (G.1 + off 1000)), some (.int x1), some (.int x2), some (.int x3), none, none, none, none]) rfl ?_
  unfold X12_hide
  refine JO_aload_n (pc := 0) dX12_hide_0 rfl ?_
  refine JO_iload_n (pc := 1) dX12_hide_1 rfl ?_
  refine JO_callVi (pc := 2) [.int x1] lk_X12_432 rfl (ci := 12) rfl shX12 (w_X12_isPerson G (d + 6) x1 σ) rfl rfl (Nat.le_of_ble_eq_true rfl) dX12_hide_2 (fun r1 => ?_)
  refine JO_if_eq (pc := 5) (tgt := 27) dX12_hide_5 (by decide) ?_ ?_
  · refine JO_bipush (pc := 27) (a := (-2)) dX12_hide_27 (by decide) ?_
    exact JO_reti (pc := 29) rfl dX12_hide_29
  · refine JO_iload_n (pc := 8) dX12_hide_8 rfl ?_
    refine JO_iconst (pc := 9) (a := 1) dX12_hide_9 (by decide) ?_
    refine JO_bipush (pc := 10) (a := 60) dX12_hide_10 (by decide) ?_
    refine JO_callSi (pc := 12) [.int x2, .int 1, .int 60] lk_X12_428 rfl (w_X12_isIn G (d + 7) x2 1 60 r1.2) rfl rfl (Nat.le_of_ble_eq_true rfl) dX12_hide_12 (fun r2 => ?_)
    refine JO_if_eq (pc := 15) (tgt := 27) dX12_hide_15 (by decide) ?_ ?_
    · refine JO_bipush (pc := 27) (a := (-2)) dX12_hide_27 (by decide) ?_
      exact JO_reti (pc := 29) rfl dX12_hide_29
    · refine JO_iload_n (pc := 18) dX12_hide_18 rfl ?_
      refine JO_iconst (pc := 19) (a := 0) dX12_hide_19 (by decide) ?_
      refine JO_iconst (pc := 20) (a := 1) dX12_hide_20 (by decide) ?_
      refine JO_callSi (pc := 21) [.int x3, .int 0, .int 1] lk_X12_428 rfl (w_X12_isIn G (d + 7) x3 0 1 r2.2) rfl rfl (Nat.le_of_ble_eq_true rfl) dX12_hide_21 (fun r3 => ?_)
      refine JO_if_ne (pc := 24) (tgt := 30) dX12_hide_24 (by decide) ?_ ?_
      · refine JO_aload_n (pc := 30) dX12_hide_30 rfl ?_
        refine JO_getR (pc := 31) fl_X12_75 rfl fkX12_from dX12_hide_31 ?_
        refine JO_iload_n (pc := 34) dX12_hide_34 rfl ?_
        refine JO_iald (pc := 35) akX12_from dX12_hide_35 ?_
        refine JO_nm (fun v4 => ?_)
        refine JO_istore (pc := 36) (L' := [some (.ref (G.1 + off 1000)), some (.int x1), some (.int x2), some (.int x3), some (.int v4), none, none, none]) dX12_hide_36 rfl rfl rfl ?_
        refine JO_aload_n (pc := 38) dX12_hide_38 rfl ?_
        refine JO_iload_n (pc := 39) dX12_hide_39 rfl ?_
        refine JO_iload_n (pc := 40) dX12_hide_40 rfl ?_
        refine JO_iload (pc := 41) dX12_hide_41 rfl ?_
        refine JO_callVi (pc := 43) [.int x1, .int x2, .int v4] lk_X12_542 rfl (ci := 12) rfl shX12 (w_X12_owedBy G d x1 x2 v4 r3.2) rfl rfl (Nat.le_of_ble_eq_true rfl) dX12_hide_43 (fun r5 => ?_)
        refine JO_nm (fun v6 => ?_)
        refine JO_istore (pc := 46) (L' := [some (.ref (G.1 + off 1000)), some (.int x1), some (.int x2), some (.int x3), some (.int v4), some (.int v6), none, none]) dX12_hide_46 rfl rfl rfl ?_
        refine JO_iconst (pc := 48) (a := 0) dX12_hide_48 (by decide) ?_
        refine JO_nm (fun v7 => ?_)
        refine JO_istore (pc := 49) (L' := [some (.ref (G.1 + off 1000)), some (.int x1), some (.int x2), some (.int x3), some (.int v4), some (.int v6), some (.int v7), none]) dX12_hide_49 rfl rfl rfl ?_
        exact JO_sub (l_sub_some (l_sub_some (l_sub_some (l_sub_some (l_sub_some (l_sub_some (l_sub_some (l_sub_none (l_sub_nil))))))))) (w_X12_hide_51 G d fu x1 x2 x3 v4 v6 v7 r5.2)
      · refine JO_bipush (pc := 27) (a := (-2)) dX12_hide_27 (by decide) ?_
        exact JO_reti (pc := 29) rfl dX12_hide_29
set_option maxHeartbeats 4000000 in
set_option maxRecDepth 100000 in
theorem w_X12_word_160 (G : JG) (d : Nat) (k163 : Int32 → Int32 → Int32 → Int32 → Int32 → Int32 → Int32 → Int32 → Mem → Option (Int32 × Mem)) (hk163 : ∀ (x1 : Int32) (x2 : Int32) (x3 : Int32) (x4 : Int32) (x5 : Int32) (x6 : Int32) (x7 : Int32) (x8 : Int32) (σ : Mem), JO G mX12_word (d + 7) 163 [some (.ref (G.1 + off 1000)), some (.int x1), some (.int x2), some (.int x3), some (.int x4), some (.int x5), some (.int x6), some (.int x7), some (.int x8)] [] σ rI (k163 x1 x2 x3 x4 x5 x6 x7 x8 σ)) : ∀ (x1 : Int32) (x2 : Int32) (x3 : Int32) (x4 : Int32) (x5 : Int32) (x6 : Int32) (x7 : Int32) (x8 : Int32) (σ : Mem), JO G mX12_word (d + 7) 160 [some (.ref (G.1 + off 1000)), some (.int x1), some (.int x2), some (.int x3), some (.int x4), some (.int x5), some (.int x6), some (.int x7), some (.int x8)] [] σ rI (X12_word_160 k163 x1 x2 x3 x4 x5 x6 x7 x8 σ) := by
  intro x1 x2 x3 x4 x5 x6 x7 x8 σ
  unfold X12_word_160
  refine JO_inc (pc := 160) (b := 1) (L' := fun v18 => [some (.ref (G.1 + off 1000)), some (.int x1), some (.int x2), some (.int x3), some (.int v18), some (.int x5), some (.int x6), some (.int x7), some (.int x8)]) dX12_word_160 rfl rfl (by decide) rfl (fun _ => rfl) (fun v18 => ?_)
  exact JO_sub (l_sub_some (l_sub_some (l_sub_some (l_sub_some (l_sub_some (l_sub_some (l_sub_some (l_sub_some (l_sub_some (l_sub_nil)))))))))) (hk163 x1 x2 x3 v18 x5 x6 x7 x8 σ)
set_option maxHeartbeats 4000000 in
set_option maxRecDepth 100000 in
theorem w_X12_word_163 (G : JG) (d : Nat) (k82 : Int32 → Int32 → Int32 → Int32 → Int32 → Int32 → Int32 → Int32 → Mem → Option (Int32 × Mem)) (hk82 : ∀ (x1 : Int32) (x2 : Int32) (x3 : Int32) (x4 : Int32) (x5 : Int32) (x6 : Int32) (x7 : Int32) (x8 : Int32) (σ : Mem), JO G mX12_word (d + 7) 82 [some (.ref (G.1 + off 1000)), some (.int x1), some (.int x2), some (.int x3), some (.int x4), some (.int x5), some (.int x6), some (.int x7), some (.int x8)] [] σ rI (k82 x1 x2 x3 x4 x5 x6 x7 x8 σ)) : ∀ (x1 : Int32) (x2 : Int32) (x3 : Int32) (x4 : Int32) (x5 : Int32) (x6 : Int32) (x7 : Int32) (x8 : Int32) (σ : Mem), JO G mX12_word (d + 7) 163 [some (.ref (G.1 + off 1000)), some (.int x1), some (.int x2), some (.int x3), some (.int x4), some (.int x5), some (.int x6), some (.int x7), some (.int x8)] [] σ rI (X12_word_163 k82 x1 x2 x3 x4 x5 x6 x7 x8 σ) := by
  intro x1 x2 x3 x4 x5 x6 x7 x8 σ
  unfold X12_word_163
  refine JO_inc (pc := 163) (b := 1) (L' := fun v19 => [some (.ref (G.1 + off 1000)), some (.int x1), some (.int x2), some (.int x3), some (.int x4), some (.int x5), some (.int x6), some (.int x7), some (.int v19)]) dX12_word_163 rfl rfl (by decide) rfl (fun _ => rfl) (fun v19 => ?_)
  refine JO_goto (pc := 166) (tgt := 82) dX12_word_166 (by decide) ?_
  exact JO_sub (l_sub_some (l_sub_some (l_sub_some (l_sub_some (l_sub_some (l_sub_some (l_sub_some (l_sub_some (l_sub_some (l_sub_nil)))))))))) (hk82 x1 x2 x3 x4 x5 x6 x7 v19 σ)
set_option maxHeartbeats 4000000 in
set_option maxRecDepth 100000 in
theorem w_X12_word_82 (G : JG) (d : Nat) (k181 : Int32 → Int32 → Int32 → Int32 → Int32 → Int32 → Mem → Option (Int32 × Mem)) (hk181 : ∀ (x1 : Int32) (x2 : Int32) (x3 : Int32) (x4 : Int32) (x5 : Int32) (x6 : Int32) (σ : Mem), JO G mX12_word (d + 7) 181 [some (.ref (G.1 + off 1000)), some (.int x1), some (.int x2), some (.int x3), some (.int x4), some (.int x5), some (.int x6), none, none] [] σ rI (k181 x1 x2 x3 x4 x5 x6 σ)) : ∀ (n : Nat) (x1 : Int32) (x2 : Int32) (x3 : Int32) (x4 : Int32) (x5 : Int32) (x6 : Int32) (x7 : Int32) (x8 : Int32) (σ : Mem), JO G mX12_word (d + 7) 82 [some (.ref (G.1 + off 1000)), some (.int x1), some (.int x2), some (.int x3), some (.int x4), some (.int x5), some (.int x6), some (.int x7), some (.int x8)] [] σ rI (X12_word_82 k181 n x1 x2 x3 x4 x5 x6 x7 x8 σ) := by
  intro n
  induction n with
  | zero =>
    intro x1 x2 x3 x4 x5 x6 x7 x8 σ
    exact JO_none
  | succ n ih =>
    intro x1 x2 x3 x4 x5 x6 x7 x8 σ
    rw [X12_word_82]
    refine JO_iload (pc := 82) dX12_word_82 rfl ?_
    refine JO_bipush (pc := 84) (a := 99) dX12_word_84 (by decide) ?_
    refine JO_icmp_gt (pc := 86) (tgt := 169) dX12_word_86 (by decide) ?_ ?_
    · refine JO_aload_n (pc := 169) dX12_word_169 rfl ?_
      refine JO_getR (pc := 170) fl_X12_33 rfl fkX12_arg dX12_word_170 ?_
      refine JO_iload (pc := 173) dX12_word_173 rfl ?_
      refine JO_iload (pc := 175) dX12_word_175 rfl ?_
      refine JO_iast (pc := 177) akX12_arg dX12_word_177 (fun σ9 => ?_)
      refine JO_inc (pc := 178) (b := 1) (L' := fun v10 => [some (.ref (G.1 + off 1000)), some (.int x1), some (.int x2), some (.int x3), some (.int x4), some (.int v10), some (.int x6), some (.int x7), some (.int x8)]) dX12_word_178 rfl rfl (by decide) rfl (fun _ => rfl) (fun v10 => ?_)
      exact JO_sub (l_sub_some (l_sub_some (l_sub_some (l_sub_some (l_sub_some (l_sub_some (l_sub_some (l_sub_none (l_sub_none (l_sub_nil)))))))))) (hk181 x1 x2 x3 x4 v10 x6 σ9)
    · refine JO_iload (pc := 89) dX12_word_89 rfl ?_
      refine JO_iload (pc := 91) dX12_word_91 rfl ?_
      refine JO_icmp_ne (pc := 93) (tgt := 99) dX12_word_93 (by decide) ?_ ?_
      · refine JO_aload_n (pc := 99) dX12_word_99 rfl ?_
        refine JO_getR (pc := 100) fl_X12_33 rfl fkX12_arg dX12_word_100 ?_
        refine JO_iload (pc := 103) dX12_word_103 rfl ?_
        refine JO_iload (pc := 105) dX12_word_105 rfl ?_
        refine JO_iast (pc := 107) akX12_arg dX12_word_107 (fun σ11 => ?_)
        refine JO_aload_n (pc := 108) dX12_word_108 rfl ?_
        refine JO_callVv (pc := 109) [] lk_X12_487 rfl (ci := 12) rfl shX12 (w_X12_load G (d + 6)  σ11) rfl rfl (Nat.le_of_ble_eq_true rfl) dX12_word_109 (fun σ12 => ?_)
        refine JO_aload_n (pc := 112) dX12_word_112 rfl ?_
        refine JO_iload_n (pc := 113) dX12_word_113 rfl ?_
        refine JO_callVv (pc := 114) [.int x3] lk_X12_497 rfl (ci := 12) rfl shX12 (w_X12_goHours G d x3 σ12) rfl rfl (Nat.le_of_ble_eq_true rfl) dX12_word_114 (fun σ13 => ?_)
        refine JO_aload_n (pc := 117) dX12_word_117 rfl ?_
        refine JO_getR (pc := 118) fl_X12_114 rfl fkX12_owed dX12_word_118 ?_
        refine JO_bipush (pc := 121) (a := 6) dX12_word_121 (by decide) ?_
        refine JO_iload_n (pc := 123) dX12_word_123 rfl ?_
        refine JO_imul (pc := 124) dX12_word_124 ?_
        refine JO_iload_n (pc := 125) dX12_word_125 rfl ?_
        refine JO_iadd (pc := 126) dX12_word_126 ?_
        refine JO_iald (pc := 127) akX12_owed dX12_word_127 ?_
        refine JO_if_le (pc := 128) (tgt := 134) dX12_word_128 (by decide) ?_ ?_
        · refine JO_iload (pc := 134) dX12_word_134 rfl ?_
          refine JO_if_ne (pc := 136) (tgt := 160) dX12_word_136 (by decide) ?_ ?_
          · exact JO_sub (l_sub_some (l_sub_some (l_sub_some (l_sub_some (l_sub_some (l_sub_some (l_sub_some (l_sub_some (l_sub_some (l_sub_nil)))))))))) (w_X12_word_160 G d _ (w_X12_word_163 G d _ (ih)) x1 x2 x3 x4 x5 x6 x7 x8 σ13)
          · refine JO_aload_n (pc := 139) dX12_word_139 rfl ?_
            refine JO_getR (pc := 140) fl_X12_142 rfl fkX12_lies dX12_word_140 ?_
            refine JO_iconst (pc := 143) (a := 0) dX12_word_143 (by decide) ?_
            refine JO_iload (pc := 144) dX12_word_144 rfl ?_
            refine JO_iastc (pc := 146) (k := 0) akX12_lies (by decide) (by decide) dX12_word_146 (fun σ14 => ?_)
            refine JO_aload_n (pc := 147) dX12_word_147 rfl ?_
            refine JO_getR (pc := 148) fl_X12_142 rfl fkX12_lies dX12_word_148 ?_
            refine JO_iconst (pc := 151) (a := 1) dX12_word_151 (by decide) ?_
            refine JO_iload (pc := 152) dX12_word_152 rfl ?_
            refine JO_iastc (pc := 154) (k := 1) akX12_lies (by decide) (by decide) dX12_word_154 (fun σ15 => ?_)
            refine JO_aload_n (pc := 155) dX12_word_155 rfl ?_
            refine JO_iconst (pc := 156) (a := 2) dX12_word_156 (by decide) ?_
            refine JO_putI (pc := 157) fl_X12_425 rfl fkX12_lain dX12_word_157 (fun σ16 => ?_)
            exact JO_sub (l_sub_some (l_sub_some (l_sub_some (l_sub_some (l_sub_some (l_sub_some (l_sub_some (l_sub_some (l_sub_some (l_sub_nil)))))))))) (w_X12_word_160 G d _ (w_X12_word_163 G d _ (ih)) x1 x2 x3 x4 x5 x6 x7 x8 σ16)
        · refine JO_goto (pc := 131) (tgt := 163) dX12_word_131 (by decide) ?_
          exact JO_sub (l_sub_some (l_sub_some (l_sub_some (l_sub_some (l_sub_some (l_sub_some (l_sub_some (l_sub_some (l_sub_some (l_sub_nil)))))))))) (w_X12_word_163 G d _ (ih) x1 x2 x3 x4 x5 x6 x7 x8 σ13)
      · refine JO_goto (pc := 96) (tgt := 163) dX12_word_96 (by decide) ?_
        exact JO_sub (l_sub_some (l_sub_some (l_sub_some (l_sub_some (l_sub_some (l_sub_some (l_sub_some (l_sub_some (l_sub_some (l_sub_nil)))))))))) (w_X12_word_163 G d _ (ih) x1 x2 x3 x4 x5 x6 x7 x8 σ)
set_option maxHeartbeats 4000000 in
set_option maxRecDepth 100000 in
theorem w_X12_word_181 (G : JG) (d : Nat) (k35 : Int32 → Int32 → Int32 → Int32 → Int32 → Int32 → Mem → Option (Int32 × Mem)) (hk35 : ∀ (x1 : Int32) (x2 : Int32) (x3 : Int32) (x4 : Int32) (x5 : Int32) (x6 : Int32) (σ : Mem), JO G mX12_word (d + 7) 35 [some (.ref (G.1 + off 1000)), some (.int x1), some (.int x2), some (.int x3), some (.int x4), some (.int x5), some (.int x6), none, none] [] σ rI (k35 x1 x2 x3 x4 x5 x6 σ)) : ∀ (x1 : Int32) (x2 : Int32) (x3 : Int32) (x4 : Int32) (x5 : Int32) (x6 : Int32) (σ : Mem), JO G mX12_word (d + 7) 181 [some (.ref (G.1 + off 1000)), some (.int x1), some (.int x2), some (.int x3), some (.int x4), some (.int x5), some (.int x6), none, none] [] σ rI (X12_word_181 k35 x1 x2 x3 x4 x5 x6 σ) := by
  intro x1 x2 x3 x4 x5 x6 σ
  unfold X12_word_181
  refine JO_inc (pc := 181) (b := 1) (L' := fun v17 => [some (.ref (G.1 + off 1000)), some (.int x1), some (.int x2), some (.int x3), some (.int x4), some (.int x5), some (.int v17), none, none]) dX12_word_181 rfl rfl (by decide) rfl (fun _ => rfl) (fun v17 => ?_)
  refine JO_goto (pc := 184) (tgt := 35) dX12_word_184 (by decide) ?_
  exact JO_sub (l_sub_some (l_sub_some (l_sub_some (l_sub_some (l_sub_some (l_sub_some (l_sub_some (l_sub_none (l_sub_none (l_sub_nil)))))))))) (hk35 x1 x2 x3 x4 x5 v17 σ)
set_option maxHeartbeats 4000000 in
set_option maxRecDepth 100000 in
theorem w_X12_word_54 (G : JG) (d : Nat) (k35 : Int32 → Int32 → Int32 → Int32 → Int32 → Int32 → Mem → Option (Int32 × Mem)) (hk35 : ∀ (x1 : Int32) (x2 : Int32) (x3 : Int32) (x4 : Int32) (x5 : Int32) (x6 : Int32) (σ : Mem), JO G mX12_word (d + 7) 35 [some (.ref (G.1 + off 1000)), some (.int x1), some (.int x2), some (.int x3), some (.int x4), some (.int x5), some (.int x6), none, none] [] σ rI (k35 x1 x2 x3 x4 x5 x6 σ)) : ∀ (x1 : Int32) (x2 : Int32) (x3 : Int32) (x4 : Int32) (x5 : Int32) (x6 : Int32) (s0 : Int32) (s1 : Int32) (σ : Mem), JO G mX12_word (d + 7) 54 [some (.ref (G.1 + off 1000)), some (.int x1), some (.int x2), some (.int x3), some (.int x4), some (.int x5), some (.int x6), none, none] [.int s0, .int s1] σ rI (X12_word_54 k35 x1 x2 x3 x4 x5 x6 s0 s1 σ) := by
  intro x1 x2 x3 x4 x5 x6 s0 s1 σ
  unfold X12_word_54
  refine JO_icmp_ge (pc := 54) (tgt := 187) dX12_word_54 (by decide) ?_ ?_
  · refine JO_iload (pc := 187) dX12_word_187 rfl ?_
    exact JO_reti (pc := 189) rfl dX12_word_189
  · refine JO_aload_n (pc := 57) dX12_word_57 rfl ?_
    refine JO_getR (pc := 58) fl_X12_30 rfl fkX12_step dX12_word_58 ?_
    refine JO_iload (pc := 61) dX12_word_61 rfl ?_
    refine JO_iald (pc := 63) akX12_step dX12_word_63 ?_
    refine JO_if_eq (pc := 64) (tgt := 70) dX12_word_64 (by decide) ?_ ?_
    · refine JO_aload_n (pc := 70) dX12_word_70 rfl ?_
      refine JO_getR (pc := 71) fl_X12_33 rfl fkX12_arg dX12_word_71 ?_
      refine JO_iload (pc := 74) dX12_word_74 rfl ?_
      refine JO_iald (pc := 76) akX12_arg dX12_word_76 ?_
      refine JO_nm (fun v7 => ?_)
      refine JO_istore (pc := 77) (L' := [some (.ref (G.1 + off 1000)), some (.int x1), some (.int x2), some (.int x3), some (.int x4), some (.int x5), some (.int x6), some (.int v7), none]) dX12_word_77 rfl rfl rfl ?_
      refine JO_iconst (pc := 79) (a := 0) dX12_word_79 (by decide) ?_
      refine JO_nm (fun v8 => ?_)
      refine JO_istore (pc := 80) (L' := [some (.ref (G.1 + off 1000)), some (.int x1), some (.int x2), some (.int x3), some (.int x4), some (.int x5), some (.int x6), some (.int v7), some (.int v8)]) dX12_word_80 rfl rfl rfl ?_
      exact JO_sub (l_sub_some (l_sub_some (l_sub_some (l_sub_some (l_sub_some (l_sub_some (l_sub_some (l_sub_some (l_sub_some (l_sub_nil)))))))))) (w_X12_word_82 G d _ (w_X12_word_181 G d _ (hk35)) fu x1 x2 x3 x4 x5 x6 v7 v8 σ)
    · refine JO_goto (pc := 67) (tgt := 181) dX12_word_67 (by decide) ?_
      exact JO_sub (l_sub_some (l_sub_some (l_sub_some (l_sub_some (l_sub_some (l_sub_some (l_sub_some (l_sub_none (l_sub_none (l_sub_nil)))))))))) (w_X12_word_181 G d _ (hk35) x1 x2 x3 x4 x5 x6 σ)
set_option maxHeartbeats 4000000 in
set_option maxRecDepth 100000 in
theorem w_X12_word_35 (G : JG) (d : Nat) : ∀ (n : Nat) (x1 : Int32) (x2 : Int32) (x3 : Int32) (x4 : Int32) (x5 : Int32) (x6 : Int32) (σ : Mem), JO G mX12_word (d + 7) 35 [some (.ref (G.1 + off 1000)), some (.int x1), some (.int x2), some (.int x3), some (.int x4), some (.int x5), some (.int x6), none, none] [] σ rI (X12_word_35 n x1 x2 x3 x4 x5 x6 σ) := by
  intro n
  induction n with
  | zero =>
    intro x1 x2 x3 x4 x5 x6 σ
    exact JO_none
  | succ n ih =>
    intro x1 x2 x3 x4 x5 x6 σ
    rw [X12_word_35]
    refine JO_iload (pc := 35) dX12_word_35 rfl ?_
    refine JO_aload_n (pc := 37) dX12_word_37 rfl ?_
    refine JO_getI (pc := 38) fl_X12_404 rfl fkX12_hasLaw dX12_word_38 ?_
    refine JO_if_eq (pc := 41) (tgt := 53) dX12_word_41 (by decide) ?_ ?_
    · refine JO_iconst (pc := 53) (a := 0) dX12_word_53 (by decide) ?_
      exact JO_sub (l_sub_some (l_sub_some (l_sub_some (l_sub_some (l_sub_some (l_sub_some (l_sub_some (l_sub_none (l_sub_none (l_sub_nil)))))))))) (w_X12_word_54 G d _ (ih) x1 x2 x3 x4 x5 x6 0 x6 σ)
    · refine JO_aload_n (pc := 44) dX12_word_44 rfl ?_
      refine JO_getR (pc := 45) fl_X12_36 rfl fkX12_many dX12_word_45 ?_
      refine JO_iconst (pc := 48) (a := 0) dX12_word_48 (by decide) ?_
      refine JO_ialdc (pc := 49) (k := 0) akX12_many (by decide) (by decide) dX12_word_49 ?_
      refine JO_goto (pc := 50) (tgt := 54) dX12_word_50 (by decide) ?_
      exact JO_sub (l_sub_some (l_sub_some (l_sub_some (l_sub_some (l_sub_some (l_sub_some (l_sub_some (l_sub_none (l_sub_none (l_sub_nil)))))))))) (w_X12_word_54 G d _ (ih) x1 x2 x3 x4 x5 x6 (σ.1 1008 0) x6 σ)
set_option maxHeartbeats 4000000 in
set_option maxRecDepth 100000 in
theorem w_X12_word (G : JG) (d : Nat) (x1 : Int32) (x2 : Int32) (x3 : Int32) (σ : Mem) : JS G mX12_word (d + 7) [.ref (G.1 + off 1000), .int x1, .int x2, .int x3] σ rI (X12_word x1 x2 x3 σ) := by
  refine JS_of 5 (by decide +kernel) (Nat.le_of_ble_eq_true rfl) (L := [some (.ref (G.1 + off 1000)), some (.int x1), some (.int x2), some (.int x3), none, none, none, none, none]) rfl ?_
  unfold X12_word
  refine JO_aload_n (pc := 0) dX12_word_0 rfl ?_
  refine JO_iconst (pc := 1) (a := 0) dX12_word_1 (by decide) ?_
  refine JO_putI (pc := 2) fl_X12_425 rfl fkX12_lain dX12_word_2 (fun σ1 => ?_)
  refine JO_aload_n (pc := 5) dX12_word_5 rfl ?_
  refine JO_iload_n (pc := 6) dX12_word_6 rfl ?_
  refine JO_iload_n (pc := 7) dX12_word_7 rfl ?_
  refine JO_callVi (pc := 8) [.int x1, .int x2] lk_X12_484 rfl (ci := 12) rfl shX12 (w_X12_areTwo G (d + 4) x1 x2 σ1) rfl rfl (Nat.le_of_ble_eq_true rfl) dX12_word_8 (fun r2 => ?_)
  refine JO_if_eq (pc := 11) (tgt := 24) dX12_word_11 (by decide) ?_ ?_
  · refine JO_iconst (pc := 24) (a := (-1)) dX12_word_24 (by decide) ?_
    exact JO_reti (pc := 25) rfl dX12_word_25
  · refine JO_iload_n (pc := 14) dX12_word_14 rfl ?_
    refine JO_iconst (pc := 15) (a := 1) dX12_word_15 (by decide) ?_
    refine JO_bipush (pc := 16) (a := 60) dX12_word_16 (by decide) ?_
    refine JO_callSi (pc := 18) [.int x3, .int 1, .int 60] lk_X12_428 rfl (w_X12_isIn G (d + 6) x3 1 60 r2.2) rfl rfl (Nat.le_of_ble_eq_true rfl) dX12_word_18 (fun r3 => ?_)
    refine JO_if_ne (pc := 21) (tgt := 26) dX12_word_21 (by decide) ?_ ?_
    · refine JO_iconst (pc := 26) (a := 0) dX12_word_26 (by decide) ?_
      refine JO_nm (fun v4 => ?_)
      refine JO_istore (pc := 27) (L' := [some (.ref (G.1 + off 1000)), some (.int x1), some (.int x2), some (.int x3), some (.int v4), none, none, none, none]) dX12_word_27 rfl rfl rfl ?_
      refine JO_iconst (pc := 29) (a := 0) dX12_word_29 (by decide) ?_
      refine JO_nm (fun v5 => ?_)
      refine JO_istore (pc := 30) (L' := [some (.ref (G.1 + off 1000)), some (.int x1), some (.int x2), some (.int x3), some (.int v4), some (.int v5), none, none, none]) dX12_word_30 rfl rfl rfl ?_
      refine JO_iconst (pc := 32) (a := 0) dX12_word_32 (by decide) ?_
      refine JO_nm (fun v6 => ?_)
      refine JO_istore (pc := 33) (L' := [some (.ref (G.1 + off 1000)), some (.int x1), some (.int x2), some (.int x3), some (.int v4), some (.int v5), some (.int v6), none, none]) dX12_word_33 rfl rfl rfl ?_
      exact JO_sub (l_sub_some (l_sub_some (l_sub_some (l_sub_some (l_sub_some (l_sub_some (l_sub_some (l_sub_none (l_sub_none (l_sub_nil)))))))))) (w_X12_word_35 G d fu x1 x2 x3 v4 v5 v6 r3.2)
    · refine JO_iconst (pc := 24) (a := (-1)) dX12_word_24 (by decide) ?_
      exact JO_reti (pc := 25) rfl dX12_word_25
set_option maxHeartbeats 4000000 in
set_option maxRecDepth 100000 in
theorem w_X12_lies (G : JG) (d : Nat) (x1 : Int32) (σ : Mem) : JS G mX12_lies (d + 1) [.ref (G.1 + off 1000), .int x1] σ rI (X12_lies x1 σ) := by
  refine JS_of 0 (by decide +kernel) (Nat.le_of_ble_eq_true rfl) (L := [some (.ref (G.1 + off 1000)), some (.int x1)]) rfl ?_
  unfold X12_lies
  refine JO_iload_n (pc := 0) dX12_lies_0 rfl ?_
  refine JO_iconst (pc := 1) (a := 0) dX12_lies_1 (by decide) ?_
  refine JO_aload_n (pc := 2) dX12_lies_2 rfl ?_
  refine JO_getI (pc := 3) fl_X12_425 rfl fkX12_lain dX12_lies_3 ?_
  refine JO_iconst (pc := 6) (a := 1) dX12_lies_6 (by decide) ?_
  refine JO_isub (pc := 7) dX12_lies_7 ?_
  refine JO_callSi (pc := 8) [.int x1, .int 0, .int ((σ.1 1000 75) - 1)] lk_X12_428 rfl (w_X12_isIn G d x1 0 ((σ.1 1000 75) - 1) σ) rfl rfl (Nat.le_of_ble_eq_true rfl) dX12_lies_8 (fun r1 => ?_)
  refine JO_if_eq (pc := 11) (tgt := 23) dX12_lies_11 (by decide) ?_ ?_
  · refine JO_ldcw (pc := 23) kc_X12_545 rfl dX12_lies_23 ?_
    exact JO_reti (pc := 26) rfl dX12_lies_26
  · refine JO_aload_n (pc := 14) dX12_lies_14 rfl ?_
    refine JO_getR (pc := 15) fl_X12_142 rfl fkX12_lies dX12_lies_15 ?_
    refine JO_iload_n (pc := 18) dX12_lies_18 rfl ?_
    refine JO_iald (pc := 19) akX12_lies dX12_lies_19 ?_
    refine JO_goto (pc := 20) (tgt := 26) dX12_lies_20 (by decide) ?_
    exact JO_reti (pc := 26) rfl dX12_lies_26
set_option maxHeartbeats 4000000 in
set_option maxRecDepth 100000 in
theorem w_X12_step (G : JG) (d : Nat) (x1 : Int32) (x2 : Int32) (x3 : Int32) (σ : Mem) : JS G mX12_step (d + 2) [.ref (G.1 + off 1000), .int x1, .int x2, .int x3] σ rI (X12_step x1 x2 x3 σ) := by
  refine JS_of 0 (by decide +kernel) (Nat.le_of_ble_eq_true rfl) (L := [some (.ref (G.1 + off 1000)), some (.int x1), some (.int x2), some (.int x3)]) rfl ?_
  unfold X12_step
  refine JO_aload_n (pc := 0) dX12_step_0 rfl ?_
  refine JO_iload_n (pc := 1) dX12_step_1 rfl ?_
  refine JO_callVi (pc := 2) [.int x1] lk_X12_432 rfl (ci := 12) rfl shX12 (w_X12_isPerson G d x1 σ) rfl rfl (Nat.le_of_ble_eq_true rfl) dX12_step_2 (fun r1 => ?_)
  refine JO_if_eq (pc := 5) (tgt := 41) dX12_step_5 (by decide) ?_ ?_
  · refine JO_iconst (pc := 41) (a := (-1)) dX12_step_41 (by decide) ?_
    exact JO_reti (pc := 42) rfl dX12_step_42
  · refine JO_iload_n (pc := 8) dX12_step_8 rfl ?_
    refine JO_iconst (pc := 9) (a := 0) dX12_step_9 (by decide) ?_
    refine JO_aload_n (pc := 10) dX12_step_10 rfl ?_
    refine JO_getI (pc := 11) fl_X12_96 rfl fkX12_day dX12_step_11 ?_
    refine JO_iconst (pc := 14) (a := 1) dX12_step_14 (by decide) ?_
    refine JO_isub (pc := 15) dX12_step_15 ?_
    refine JO_callSi (pc := 16) [.int x2, .int 0, .int ((r1.2.1 1000 46) - 1)] lk_X12_428 rfl (w_X12_isIn G (d + 1) x2 0 ((r1.2.1 1000 46) - 1) r1.2) rfl rfl (Nat.le_of_ble_eq_true rfl) dX12_step_16 (fun r2 => ?_)
    refine JO_if_eq (pc := 19) (tgt := 41) dX12_step_19 (by decide) ?_ ?_
    · refine JO_iconst (pc := 41) (a := (-1)) dX12_step_41 (by decide) ?_
      exact JO_reti (pc := 42) rfl dX12_step_42
    · refine JO_iload_n (pc := 22) dX12_step_22 rfl ?_
      refine JO_iconst (pc := 23) (a := 0) dX12_step_23 (by decide) ?_
      refine JO_bipush (pc := 24) (a := 20) dX12_step_24 (by decide) ?_
      refine JO_callSi (pc := 26) [.int x3, .int 0, .int 20] lk_X12_428 rfl (w_X12_isIn G (d + 1) x3 0 20 r2.2) rfl rfl (Nat.le_of_ble_eq_true rfl) dX12_step_26 (fun r3 => ?_)
      refine JO_if_eq (pc := 29) (tgt := 41) dX12_step_29 (by decide) ?_ ?_
      · refine JO_iconst (pc := 41) (a := (-1)) dX12_step_41 (by decide) ?_
        exact JO_reti (pc := 42) rfl dX12_step_42
      · refine JO_aload_n (pc := 32) dX12_step_32 rfl ?_
        refine JO_getI (pc := 33) fl_X12_422 rfl fkX12_tracks dX12_step_33 ?_
        refine JO_bipush (pc := 36) (a := 30) dX12_step_36 (by decide) ?_
        refine JO_icmp_ne (pc := 38) (tgt := 43) dX12_step_38 (by decide) ?_ ?_
        · refine JO_aload_n (pc := 43) dX12_step_43 rfl ?_
          refine JO_getR (pc := 44) fl_X12_151 rfl fkX12_trackOf dX12_step_44 ?_
          refine JO_aload_n (pc := 47) dX12_step_47 rfl ?_
          refine JO_getI (pc := 48) fl_X12_422 rfl fkX12_tracks dX12_step_48 ?_
          refine JO_iload_n (pc := 51) dX12_step_51 rfl ?_
          refine JO_iast (pc := 52) akX12_trackOf dX12_step_52 (fun σ4 => ?_)
          refine JO_aload_n (pc := 53) dX12_step_53 rfl ?_
          refine JO_getR (pc := 54) fl_X12_154 rfl fkX12_trackHour dX12_step_54 ?_
          refine JO_aload_n (pc := 57) dX12_step_57 rfl ?_
          refine JO_getI (pc := 58) fl_X12_422 rfl fkX12_tracks dX12_step_58 ?_
          refine JO_iload_n (pc := 61) dX12_step_61 rfl ?_
          refine JO_iast (pc := 62) akX12_trackHour dX12_step_62 (fun σ5 => ?_)
          refine JO_aload_n (pc := 63) dX12_step_63 rfl ?_
          refine JO_getR (pc := 64) fl_X12_157 rfl fkX12_trackPlace dX12_step_64 ?_
          refine JO_aload_n (pc := 67) dX12_step_67 rfl ?_
          refine JO_getI (pc := 68) fl_X12_422 rfl fkX12_tracks dX12_step_68 ?_
          refine JO_iload_n (pc := 71) dX12_step_71 rfl ?_
          refine JO_iast (pc := 72) akX12_trackPlace dX12_step_72 (fun σ6 => ?_)
          refine JO_aload_n (pc := 73) dX12_step_73 rfl ?_
          refine JO_getR (pc := 74) fl_X12_160 rfl fkX12_trackTold dX12_step_74 ?_
          refine JO_aload_n (pc := 77) dX12_step_77 rfl ?_
          refine JO_getI (pc := 78) fl_X12_422 rfl fkX12_tracks dX12_step_78 ?_
          refine JO_aload_n (pc := 81) dX12_step_81 rfl ?_
          refine JO_getI (pc := 82) fl_X12_546 rfl fkX12_time dX12_step_82 ?_
          refine JO_iast (pc := 85) akX12_trackTold dX12_step_85 (fun σ7 => ?_)
          refine JO_aload_n (pc := 86) dX12_step_86 rfl ?_
          refine JO_getR (pc := 87) fl_X12_163 rfl fkX12_trackUntold dX12_step_87 ?_
          refine JO_aload_n (pc := 90) dX12_step_90 rfl ?_
          refine JO_getI (pc := 91) fl_X12_422 rfl fkX12_tracks dX12_step_91 ?_
          refine JO_iconst (pc := 94) (a := (-1)) dX12_step_94 (by decide) ?_
          refine JO_iast (pc := 95) akX12_trackUntold dX12_step_95 (fun σ8 => ?_)
          refine JO_aload_n (pc := 96) dX12_step_96 rfl ?_
          refine JO_dup (pc := 97) dX12_step_97 rfl ?_
          refine JO_getI (pc := 98) fl_X12_422 rfl fkX12_tracks dX12_step_98 ?_
          refine JO_iconst (pc := 101) (a := 1) dX12_step_101 (by decide) ?_
          refine JO_iadd (pc := 102) dX12_step_102 ?_
          refine JO_putI (pc := 103) fl_X12_422 rfl fkX12_tracks dX12_step_103 (fun σ9 => ?_)
          refine JO_aload_n (pc := 106) dX12_step_106 rfl ?_
          refine JO_getI (pc := 107) fl_X12_422 rfl fkX12_tracks dX12_step_107 ?_
          refine JO_iconst (pc := 110) (a := 1) dX12_step_110 (by decide) ?_
          refine JO_isub (pc := 111) dX12_step_111 ?_
          exact JO_reti (pc := 112) rfl dX12_step_112
        · refine JO_iconst (pc := 41) (a := (-1)) dX12_step_41 (by decide) ?_
          exact JO_reti (pc := 42) rfl dX12_step_42
set_option maxHeartbeats 4000000 in
set_option maxRecDepth 100000 in
theorem w_X12_untell (G : JG) (d : Nat) (x1 : Int32) (σ : Mem) : JS G mX12_untell (d + 1) [.ref (G.1 + off 1000), .int x1] σ rI (X12_untell x1 σ) := by
  refine JS_of 0 (by decide +kernel) (Nat.le_of_ble_eq_true rfl) (L := [some (.ref (G.1 + off 1000)), some (.int x1)]) rfl ?_
  unfold X12_untell
  refine JO_iload_n (pc := 0) dX12_untell_0 rfl ?_
  refine JO_iconst (pc := 1) (a := 0) dX12_untell_1 (by decide) ?_
  refine JO_aload_n (pc := 2) dX12_untell_2 rfl ?_
  refine JO_getI (pc := 3) fl_X12_422 rfl fkX12_tracks dX12_untell_3 ?_
  refine JO_iconst (pc := 6) (a := 1) dX12_untell_6 (by decide) ?_
  refine JO_isub (pc := 7) dX12_untell_7 ?_
  refine JO_callSi (pc := 8) [.int x1, .int 0, .int ((σ.1 1000 86) - 1)] lk_X12_428 rfl (w_X12_isIn G d x1 0 ((σ.1 1000 86) - 1) σ) rfl rfl (Nat.le_of_ble_eq_true rfl) dX12_untell_8 (fun r1 => ?_)
  refine JO_if_eq (pc := 11) (tgt := 23) dX12_untell_11 (by decide) ?_ ?_
  · refine JO_iconst (pc := 23) (a := 0) dX12_untell_23 (by decide) ?_
    exact JO_retzc (pc := 24) (by decide) rfl dX12_untell_24
  · refine JO_aload_n (pc := 14) dX12_untell_14 rfl ?_
    refine JO_getR (pc := 15) fl_X12_163 rfl fkX12_trackUntold dX12_untell_15 ?_
    refine JO_iload_n (pc := 18) dX12_untell_18 rfl ?_
    refine JO_iald (pc := 19) akX12_trackUntold dX12_untell_19 ?_
    refine JO_if_lt (pc := 20) (tgt := 25) dX12_untell_20 (by decide) ?_ ?_
    · refine JO_aload_n (pc := 25) dX12_untell_25 rfl ?_
      refine JO_getR (pc := 26) fl_X12_163 rfl fkX12_trackUntold dX12_untell_26 ?_
      refine JO_iload_n (pc := 29) dX12_untell_29 rfl ?_
      refine JO_aload_n (pc := 30) dX12_untell_30 rfl ?_
      refine JO_getI (pc := 31) fl_X12_546 rfl fkX12_time dX12_untell_31 ?_
      refine JO_iast (pc := 34) akX12_trackUntold dX12_untell_34 (fun σ2 => ?_)
      refine JO_iconst (pc := 35) (a := 1) dX12_untell_35 (by decide) ?_
      exact JO_retzc (pc := 36) (by decide) rfl dX12_untell_36
    · refine JO_iconst (pc := 23) (a := 0) dX12_untell_23 (by decide) ?_
      exact JO_retzc (pc := 24) (by decide) rfl dX12_untell_24
set_option maxHeartbeats 4000000 in
set_option maxRecDepth 100000 in
theorem w_X12_later (G : JG) (d : Nat) (x1 : Int32) (σ : Mem) : JS G mX12_later d [.ref (G.1 + off 1000), .int x1] σ rI (X12_later x1 σ) := by
  refine JS_of 0 (by decide +kernel) (Nat.le_of_ble_eq_true rfl) (L := [some (.ref (G.1 + off 1000)), some (.int x1)]) rfl ?_
  unfold X12_later
  refine JO_iload_n (pc := 0) dX12_later_0 rfl ?_
  refine JO_if_lt (pc := 1) (tgt := 23) dX12_later_1 (by decide) ?_ ?_
  · refine JO_iconst (pc := 23) (a := (-1)) dX12_later_23 (by decide) ?_
    exact JO_reti (pc := 24) rfl dX12_later_24
  · refine JO_iload_n (pc := 4) dX12_later_4 rfl ?_
    refine JO_sipush (pc := 5) (a := 1000) dX12_later_5 (by decide) ?_
    refine JO_icmp_gt (pc := 8) (tgt := 23) dX12_later_8 (by decide) ?_ ?_
    · refine JO_iconst (pc := 23) (a := (-1)) dX12_later_23 (by decide) ?_
      exact JO_reti (pc := 24) rfl dX12_later_24
    · refine JO_aload_n (pc := 11) dX12_later_11 rfl ?_
      refine JO_getI (pc := 12) fl_X12_546 rfl fkX12_time dX12_later_12 ?_
      refine JO_iload_n (pc := 15) dX12_later_15 rfl ?_
      refine JO_iadd (pc := 16) dX12_later_16 ?_
      refine JO_ldcw (pc := 17) kc_X12_549 rfl dX12_later_17 ?_
      refine JO_icmp_le (pc := 20) (tgt := 25) dX12_later_20 (by decide) ?_ ?_
      · refine JO_aload_n (pc := 25) dX12_later_25 rfl ?_
        refine JO_dup (pc := 26) dX12_later_26 rfl ?_
        refine JO_getI (pc := 27) fl_X12_546 rfl fkX12_time dX12_later_27 ?_
        refine JO_iload_n (pc := 30) dX12_later_30 rfl ?_
        refine JO_iadd (pc := 31) dX12_later_31 ?_
        refine JO_putI (pc := 32) fl_X12_546 rfl fkX12_time dX12_later_32 (fun σ1 => ?_)
        refine JO_aload_n (pc := 35) dX12_later_35 rfl ?_
        refine JO_getI (pc := 36) fl_X12_546 rfl fkX12_time dX12_later_36 ?_
        exact JO_reti (pc := 39) rfl dX12_later_39
      · refine JO_iconst (pc := 23) (a := (-1)) dX12_later_23 (by decide) ?_
        exact JO_reti (pc := 24) rfl dX12_later_24
set_option maxHeartbeats 4000000 in
set_option maxRecDepth 100000 in
theorem w_X12_placeBy_50 (G : JG) (d : Nat) (k11 : Int32 → Int32 → Int32 → Int32 → Int32 → Mem → Option (Int32 × Mem)) (hk11 : ∀ (x1 : Int32) (x2 : Int32) (x3 : Int32) (x4 : Int32) (x5 : Int32) (σ : Mem), JO G mX12_placeBy (d + 1) 11 [some (.ref (G.1 + off 1000)), some (.int x1), some (.int x2), some (.int x3), some (.int x4), some (.int x5)] [] σ rI (k11 x1 x2 x3 x4 x5 σ)) : ∀ (x1 : Int32) (x2 : Int32) (x3 : Int32) (x5 : Int32) (s0 : Int32) (s1 : Int32) (σ : Mem), JO G mX12_placeBy (d + 1) 50 [some (.ref (G.1 + off 1000)), some (.int x1), some (.int x2), some (.int x3), none, some (.int x5)] [.int s0, .int s1] σ rI (X12_placeBy_50 k11 x1 x2 x3 x5 s0 s1 σ) := by
  intro x1 x2 x3 x5 s0 s1 σ
  unfold X12_placeBy_50
  refine JO_callSi (pc := 50) [.int s1, .int s0] lk_X12_453 rfl (w_X12_nearer G d s1 s0 σ) rfl rfl (Nat.le_of_ble_eq_true rfl) dX12_placeBy_50 (fun r3 => ?_)
  refine JO_nm (fun v4 => ?_)
  refine JO_istore (pc := 53) (L' := [some (.ref (G.1 + off 1000)), some (.int x1), some (.int x2), some (.int x3), some (.int v4), some (.int x5)]) dX12_placeBy_53 rfl rfl rfl ?_
  refine JO_inc (pc := 55) (b := 1) (L' := fun v5 => [some (.ref (G.1 + off 1000)), some (.int x1), some (.int x2), some (.int x3), some (.int v4), some (.int v5)]) dX12_placeBy_55 rfl rfl (by decide) rfl (fun _ => rfl) (fun v5 => ?_)
  refine JO_goto (pc := 58) (tgt := 11) dX12_placeBy_58 (by decide) ?_
  exact JO_sub (l_sub_some (l_sub_some (l_sub_some (l_sub_some (l_sub_some (l_sub_some (l_sub_nil))))))) (hk11 x1 x2 x3 v4 v5 r3.2)
set_option maxHeartbeats 4000000 in
set_option maxRecDepth 100000 in
theorem w_X12_placeBy_11 (G : JG) (d : Nat) : ∀ (n : Nat) (x1 : Int32) (x2 : Int32) (x3 : Int32) (x4 : Int32) (x5 : Int32) (σ : Mem), JO G mX12_placeBy (d + 1) 11 [some (.ref (G.1 + off 1000)), some (.int x1), some (.int x2), some (.int x3), some (.int x4), some (.int x5)] [] σ rI (X12_placeBy_11 n x1 x2 x3 x4 x5 σ) := by
  intro n
  induction n with
  | zero =>
    intro x1 x2 x3 x4 x5 σ
    exact JO_none
  | succ n ih =>
    intro x1 x2 x3 x4 x5 σ
    rw [X12_placeBy_11]
    refine JO_iload (pc := 11) dX12_placeBy_11 rfl ?_
    refine JO_iload_n (pc := 13) dX12_placeBy_13 rfl ?_
    refine JO_icmp_gt (pc := 14) (tgt := 61) dX12_placeBy_14 (by decide) ?_ ?_
    · refine JO_iload (pc := 61) dX12_placeBy_61 rfl ?_
      exact JO_reti (pc := 63) rfl dX12_placeBy_63
    · refine JO_iload (pc := 17) dX12_placeBy_17 rfl ?_
      refine JO_iload (pc := 19) dX12_placeBy_19 rfl ?_
      refine JO_aload_n (pc := 21) dX12_placeBy_21 rfl ?_
      refine JO_getI (pc := 22) fl_X12_96 rfl fkX12_day dX12_placeBy_22 ?_
      refine JO_aload_n (pc := 25) dX12_placeBy_25 rfl ?_
      refine JO_getR (pc := 26) fl_X12_84 rfl fkX12_rest dX12_placeBy_26 ?_
      refine JO_iload_n (pc := 29) dX12_placeBy_29 rfl ?_
      refine JO_iald (pc := 30) akX12_rest dX12_placeBy_30 ?_
      refine JO_isub (pc := 31) dX12_placeBy_31 ?_
      refine JO_icmp_lt (pc := 32) (tgt := 44) dX12_placeBy_32 (by decide) ?_ ?_
      · refine JO_aload_n (pc := 44) dX12_placeBy_44 rfl ?_
        refine JO_getR (pc := 45) fl_X12_72 rfl fkX12_door dX12_placeBy_45 ?_
        refine JO_iload_n (pc := 48) dX12_placeBy_48 rfl ?_
        refine JO_iald (pc := 49) akX12_door dX12_placeBy_49 ?_
        exact JO_sub (l_sub_some (l_sub_some (l_sub_some (l_sub_some (l_sub_none (l_sub_some (l_sub_nil))))))) (w_X12_placeBy_50 G d _ (ih) x1 x2 x3 x5 (σ.1 1020 x2.toNatClampNeg) x4 σ)
      · refine JO_aload_n (pc := 35) dX12_placeBy_35 rfl ?_
        refine JO_getR (pc := 36) fl_X12_72 rfl fkX12_door dX12_placeBy_36 ?_
        refine JO_iload_n (pc := 39) dX12_placeBy_39 rfl ?_
        refine JO_iald (pc := 40) akX12_door dX12_placeBy_40 ?_
        refine JO_goto (pc := 41) (tgt := 50) dX12_placeBy_41 (by decide) ?_
        exact JO_sub (l_sub_some (l_sub_some (l_sub_some (l_sub_some (l_sub_none (l_sub_some (l_sub_nil))))))) (w_X12_placeBy_50 G d _ (ih) x1 x2 x3 x5 (σ.1 1020 x1.toNatClampNeg) x4 σ)
set_option maxHeartbeats 4000000 in
set_option maxRecDepth 100000 in
theorem w_X12_placeBy (G : JG) (d : Nat) (x1 : Int32) (x2 : Int32) (x3 : Int32) (σ : Mem) : JS G mX12_placeBy (d + 1) [.ref (G.1 + off 1000), .int x1, .int x2, .int x3] σ rI (X12_placeBy x1 x2 x3 σ) := by
  refine JS_of 2 (by decide +kernel) (Nat.le_of_ble_eq_true rfl) (L := [some (.ref (G.1 + off 1000)), some (.int x1), some (.int x2), some (.int x3), none, none]) rfl ?_
  unfold X12_placeBy
  refine JO_aload_n (pc := 0) dX12_placeBy_0 rfl ?_
  refine JO_getR (pc := 1) fl_X12_72 rfl fkX12_door dX12_placeBy_1 ?_
  refine JO_iload_n (pc := 4) dX12_placeBy_4 rfl ?_
  refine JO_iald (pc := 5) akX12_door dX12_placeBy_5 ?_
  refine JO_nm (fun v1 => ?_)
  refine JO_istore (pc := 6) (L' := [some (.ref (G.1 + off 1000)), some (.int x1), some (.int x2), some (.int x3), some (.int v1), none]) dX12_placeBy_6 rfl rfl rfl ?_
  refine JO_iconst (pc := 8) (a := 0) dX12_placeBy_8 (by decide) ?_
  refine JO_nm (fun v2 => ?_)
  refine JO_istore (pc := 9) (L' := [some (.ref (G.1 + off 1000)), some (.int x1), some (.int x2), some (.int x3), some (.int v1), some (.int v2)]) dX12_placeBy_9 rfl rfl rfl ?_
  exact JO_sub (l_sub_some (l_sub_some (l_sub_some (l_sub_some (l_sub_some (l_sub_some (l_sub_nil))))))) (w_X12_placeBy_11 G d fu x1 x2 x3 v1 v2 σ)
set_option maxHeartbeats 4000000 in
set_option maxRecDepth 100000 in
theorem w_X12_fitSet_105 (G : JG) (d : Nat) (k106 : Int32 → Int32 → Int32 → Int32 → Int32 → Int32 → Mem → Option (Int32 × Mem)) (hk106 : ∀ (x1 : Int32) (x2 : Int32) (x3 : Int32) (x4 : Int32) (x6 : Int32) (s0 : Int32) (σ : Mem), JO G mX12_fitSet (d + 2) 106 [some (.ref (G.1 + off 1000)), some (.int x1), some (.int x2), some (.int x3), some (.int x4), none, some (.int x6)] [.int s0] σ rI (k106 x1 x2 x3 x4 x6 s0 σ)) : ∀ (x1 : Int32) (x2 : Int32) (x3 : Int32) (x4 : Int32) (x6 : Int32) (σ : Mem), JO G mX12_fitSet (d + 2) 105 [some (.ref (G.1 + off 1000)), some (.int x1), some (.int x2), some (.int x3), some (.int x4), none, some (.int x6)] [] σ rI (X12_fitSet_105 k106 x1 x2 x3 x4 x6 σ) := by
  intro x1 x2 x3 x4 x6 σ
  unfold X12_fitSet_105
  refine JO_iconst (pc := 105) (a := 0) dX12_fitSet_105 (by decide) ?_
  exact JO_sub (l_sub_some (l_sub_some (l_sub_some (l_sub_some (l_sub_some (l_sub_none (l_sub_some (l_sub_nil)))))))) (hk106 x1 x2 x3 x4 x6 0 σ)
set_option maxHeartbeats 4000000 in
set_option maxRecDepth 100000 in
theorem w_X12_fitSet_106 (G : JG) (d : Nat) (k108 : Int32 → Int32 → Int32 → Int32 → Int32 → Int32 → Mem → Option (Int32 × Mem)) (hk108 : ∀ (x1 : Int32) (x2 : Int32) (x3 : Int32) (x4 : Int32) (x5 : Int32) (x6 : Int32) (σ : Mem), JO G mX12_fitSet (d + 2) 108 [some (.ref (G.1 + off 1000)), some (.int x1), some (.int x2), some (.int x3), some (.int x4), some (.int x5), some (.int x6)] [] σ rI (k108 x1 x2 x3 x4 x5 x6 σ)) : ∀ (x1 : Int32) (x2 : Int32) (x3 : Int32) (x4 : Int32) (x6 : Int32) (s0 : Int32) (σ : Mem), JO G mX12_fitSet (d + 2) 106 [some (.ref (G.1 + off 1000)), some (.int x1), some (.int x2), some (.int x3), some (.int x4), none, some (.int x6)] [.int s0] σ rI (X12_fitSet_106 k108 x1 x2 x3 x4 x6 s0 σ) := by
  intro x1 x2 x3 x4 x6 s0 σ
  unfold X12_fitSet_106
  refine JO_istore (pc := 106) (L' := [some (.ref (G.1 + off 1000)), some (.int x1), some (.int x2), some (.int x3), some (.int x4), some (.int s0), some (.int x6)]) dX12_fitSet_106 rfl rfl rfl ?_
  exact JO_sub (l_sub_some (l_sub_some (l_sub_some (l_sub_some (l_sub_some (l_sub_some (l_sub_some (l_sub_nil)))))))) (hk108 x1 x2 x3 x4 s0 x6 σ)
set_option maxHeartbeats 4000000 in
set_option maxRecDepth 100000 in
theorem w_X12_fitSet_72 (G : JG) (d : Nat) (k108 : Int32 → Int32 → Int32 → Int32 → Int32 → Int32 → Mem → Option (Int32 × Mem)) (hk108 : ∀ (x1 : Int32) (x2 : Int32) (x3 : Int32) (x4 : Int32) (x5 : Int32) (x6 : Int32) (σ : Mem), JO G mX12_fitSet (d + 2) 108 [some (.ref (G.1 + off 1000)), some (.int x1), some (.int x2), some (.int x3), some (.int x4), some (.int x5), some (.int x6)] [] σ rI (k108 x1 x2 x3 x4 x5 x6 σ)) : ∀ (x1 : Int32) (x2 : Int32) (x3 : Int32) (x4 : Int32) (x5 : Int32) (x6 : Int32) (σ : Mem), JO G mX12_fitSet (d + 2) 72 [some (.ref (G.1 + off 1000)), some (.int x1), some (.int x2), some (.int x3), some (.int x4), some (.int x5), some (.int x6)] [] σ rI (X12_fitSet_72 k108 x1 x2 x3 x4 x5 x6 σ) := by
  intro x1 x2 x3 x4 x5 x6 σ
  unfold X12_fitSet_72
  refine JO_iload (pc := 72) dX12_fitSet_72 rfl ?_
  refine JO_if_eq (pc := 74) (tgt := 105) dX12_fitSet_74 (by decide) ?_ ?_
  · exact JO_sub (l_sub_some (l_sub_some (l_sub_some (l_sub_some (l_sub_some (l_sub_none (l_sub_some (l_sub_nil)))))))) (w_X12_fitSet_105 G d _ (w_X12_fitSet_106 G d _ (hk108)) x1 x2 x3 x4 x6 σ)
  · refine JO_aload_n (pc := 77) dX12_fitSet_77 rfl ?_
    refine JO_iload_n (pc := 78) dX12_fitSet_78 rfl ?_
    refine JO_iload (pc := 79) dX12_fitSet_79 rfl ?_
    refine JO_aload_n (pc := 81) dX12_fitSet_81 rfl ?_
    refine JO_getR (pc := 82) fl_X12_154 rfl fkX12_trackHour dX12_fitSet_82 ?_
    refine JO_iload (pc := 85) dX12_fitSet_85 rfl ?_
    refine JO_iald (pc := 87) akX12_trackHour dX12_fitSet_87 ?_
    refine JO_callVi (pc := 88) [.int x1, .int x4, .int (σ.1 1046 x6.toNatClampNeg)] lk_X12_550 rfl (ci := 12) rfl shX12 (w_X12_placeBy G d x1 x4 (σ.1 1046 x6.toNatClampNeg) σ) rfl rfl (Nat.le_of_ble_eq_true rfl) dX12_fitSet_88 (fun r8 => ?_)
    refine JO_aload_n (pc := 91) dX12_fitSet_91 rfl ?_
    refine JO_getR (pc := 92) fl_X12_157 rfl fkX12_trackPlace dX12_fitSet_92 ?_
    refine JO_iload (pc := 95) dX12_fitSet_95 rfl ?_
    refine JO_iald (pc := 97) akX12_trackPlace dX12_fitSet_97 ?_
    refine JO_icmp_ne (pc := 98) (tgt := 105) dX12_fitSet_98 (by decide) ?_ ?_
    · exact JO_sub (l_sub_some (l_sub_some (l_sub_some (l_sub_some (l_sub_some (l_sub_none (l_sub_some (l_sub_nil)))))))) (w_X12_fitSet_105 G d _ (w_X12_fitSet_106 G d _ (hk108)) x1 x2 x3 x4 x6 r8.2)
    · refine JO_iconst (pc := 101) (a := 1) dX12_fitSet_101 (by decide) ?_
      refine JO_goto (pc := 102) (tgt := 106) dX12_fitSet_102 (by decide) ?_
      exact JO_sub (l_sub_some (l_sub_some (l_sub_some (l_sub_some (l_sub_some (l_sub_none (l_sub_some (l_sub_nil)))))))) (w_X12_fitSet_106 G d _ (hk108) x1 x2 x3 x4 x6 1 r8.2)
set_option maxHeartbeats 4000000 in
set_option maxRecDepth 100000 in
theorem w_X12_fitSet_108 (G : JG) (d : Nat) (k20 : Int32 → Int32 → Int32 → Int32 → Int32 → Int32 → Mem → Option (Int32 × Mem)) (hk20 : ∀ (x1 : Int32) (x2 : Int32) (x3 : Int32) (x4 : Int32) (x5 : Int32) (x6 : Int32) (σ : Mem), JO G mX12_fitSet (d + 2) 20 [some (.ref (G.1 + off 1000)), some (.int x1), some (.int x2), some (.int x3), some (.int x4), some (.int x5), some (.int x6)] [] σ rI (k20 x1 x2 x3 x4 x5 x6 σ)) : ∀ (x1 : Int32) (x2 : Int32) (x3 : Int32) (x4 : Int32) (x5 : Int32) (x6 : Int32) (σ : Mem), JO G mX12_fitSet (d + 2) 108 [some (.ref (G.1 + off 1000)), some (.int x1), some (.int x2), some (.int x3), some (.int x4), some (.int x5), some (.int x6)] [] σ rI (X12_fitSet_108 k20 x1 x2 x3 x4 x5 x6 σ) := by
  intro x1 x2 x3 x4 x5 x6 σ
  unfold X12_fitSet_108
  refine JO_inc (pc := 108) (b := 1) (L' := fun v7 => [some (.ref (G.1 + off 1000)), some (.int x1), some (.int x2), some (.int x3), some (.int x4), some (.int x5), some (.int v7)]) dX12_fitSet_108 rfl rfl (by decide) rfl (fun _ => rfl) (fun v7 => ?_)
  refine JO_goto (pc := 111) (tgt := 20) dX12_fitSet_111 (by decide) ?_
  exact JO_sub (l_sub_some (l_sub_some (l_sub_some (l_sub_some (l_sub_some (l_sub_some (l_sub_some (l_sub_nil)))))))) (hk20 x1 x2 x3 x4 x5 v7 σ)
set_option maxHeartbeats 4000000 in
set_option maxRecDepth 100000 in
theorem w_X12_fitSet_128 (G : JG) (d : Nat) (k5 : Int32 → Int32 → Int32 → Int32 → Mem → Option (Int32 × Mem)) (hk5 : ∀ (x1 : Int32) (x2 : Int32) (x3 : Int32) (x4 : Int32) (σ : Mem), JO G mX12_fitSet (d + 2) 5 [some (.ref (G.1 + off 1000)), some (.int x1), some (.int x2), some (.int x3), some (.int x4), none, none] [] σ rI (k5 x1 x2 x3 x4 σ)) : ∀ (x1 : Int32) (x2 : Int32) (x4 : Int32) (s0 : Int32) (s1 : Int32) (σ : Mem), JO G mX12_fitSet (d + 2) 128 [some (.ref (G.1 + off 1000)), some (.int x1), some (.int x2), none, some (.int x4), none, none] [.int s0, .int s1] σ rI (X12_fitSet_128 k5 x1 x2 x4 s0 s1 σ) := by
  intro x1 x2 x4 s0 s1 σ
  unfold X12_fitSet_128
  refine JO_ior (pc := 128) dX12_fitSet_128 ?_
  refine JO_nm (fun v5 => ?_)
  refine JO_istore_n (pc := 129) (L' := [some (.ref (G.1 + off 1000)), some (.int x1), some (.int x2), some (.int v5), some (.int x4), none, none]) dX12_fitSet_129 rfl rfl rfl ?_
  refine JO_inc (pc := 130) (b := 1) (L' := fun v6 => [some (.ref (G.1 + off 1000)), some (.int x1), some (.int x2), some (.int v5), some (.int v6), none, none]) dX12_fitSet_130 rfl rfl (by decide) rfl (fun _ => rfl) (fun v6 => ?_)
  refine JO_goto (pc := 133) (tgt := 5) dX12_fitSet_133 (by decide) ?_
  exact JO_sub (l_sub_some (l_sub_some (l_sub_some (l_sub_some (l_sub_some (l_sub_none (l_sub_none (l_sub_nil)))))))) (hk5 x1 x2 v5 v6 σ)
set_option maxHeartbeats 4000000 in
set_option maxRecDepth 100000 in
theorem w_X12_fitSet_20 (G : JG) (d : Nat) (k5 : Int32 → Int32 → Int32 → Int32 → Mem → Option (Int32 × Mem)) (hk5 : ∀ (x1 : Int32) (x2 : Int32) (x3 : Int32) (x4 : Int32) (σ : Mem), JO G mX12_fitSet (d + 2) 5 [some (.ref (G.1 + off 1000)), some (.int x1), some (.int x2), some (.int x3), some (.int x4), none, none] [] σ rI (k5 x1 x2 x3 x4 σ)) : ∀ (n : Nat) (x1 : Int32) (x2 : Int32) (x3 : Int32) (x4 : Int32) (x5 : Int32) (x6 : Int32) (σ : Mem), JO G mX12_fitSet (d + 2) 20 [some (.ref (G.1 + off 1000)), some (.int x1), some (.int x2), some (.int x3), some (.int x4), some (.int x5), some (.int x6)] [] σ rI (X12_fitSet_20 k5 n x1 x2 x3 x4 x5 x6 σ) := by
  intro n
  induction n with
  | zero =>
    intro x1 x2 x3 x4 x5 x6 σ
    exact JO_none
  | succ n ih =>
    intro x1 x2 x3 x4 x5 x6 σ
    rw [X12_fitSet_20]
    refine JO_iload (pc := 20) dX12_fitSet_20 rfl ?_
    refine JO_aload_n (pc := 22) dX12_fitSet_22 rfl ?_
    refine JO_getI (pc := 23) fl_X12_422 rfl fkX12_tracks dX12_fitSet_23 ?_
    refine JO_icmp_ge (pc := 26) (tgt := 114) dX12_fitSet_26 (by decide) ?_ ?_
    · refine JO_iload_n (pc := 114) dX12_fitSet_114 rfl ?_
      refine JO_iload (pc := 115) dX12_fitSet_115 rfl ?_
      refine JO_if_eq (pc := 117) (tgt := 127) dX12_fitSet_117 (by decide) ?_ ?_
      · refine JO_iconst (pc := 127) (a := 0) dX12_fitSet_127 (by decide) ?_
        exact JO_sub (l_sub_some (l_sub_some (l_sub_some (l_sub_none (l_sub_some (l_sub_none (l_sub_none (l_sub_nil)))))))) (w_X12_fitSet_128 G d _ (hk5) x1 x2 x4 0 x3 σ)
      · refine JO_iconst (pc := 120) (a := 1) dX12_fitSet_120 (by decide) ?_
        refine JO_iload (pc := 121) dX12_fitSet_121 rfl ?_
        refine JO_ishl (pc := 123) dX12_fitSet_123 ?_
        refine JO_goto (pc := 124) (tgt := 128) dX12_fitSet_124 (by decide) ?_
        exact JO_sub (l_sub_some (l_sub_some (l_sub_some (l_sub_none (l_sub_some (l_sub_none (l_sub_none (l_sub_nil)))))))) (w_X12_fitSet_128 G d _ (hk5) x1 x2 x4 (1 <<< (x4 &&& 31)) x3 σ)
    · refine JO_aload_n (pc := 29) dX12_fitSet_29 rfl ?_
      refine JO_getR (pc := 30) fl_X12_151 rfl fkX12_trackOf dX12_fitSet_30 ?_
      refine JO_iload (pc := 33) dX12_fitSet_33 rfl ?_
      refine JO_iald (pc := 35) akX12_trackOf dX12_fitSet_35 ?_
      refine JO_iload_n (pc := 36) dX12_fitSet_36 rfl ?_
      refine JO_icmp_ne (pc := 37) (tgt := 108) dX12_fitSet_37 (by decide) ?_ ?_
      · exact JO_sub (l_sub_some (l_sub_some (l_sub_some (l_sub_some (l_sub_some (l_sub_some (l_sub_some (l_sub_nil)))))))) (w_X12_fitSet_108 G d _ (ih) x1 x2 x3 x4 x5 x6 σ)
      · refine JO_aload_n (pc := 40) dX12_fitSet_40 rfl ?_
        refine JO_getR (pc := 41) fl_X12_160 rfl fkX12_trackTold dX12_fitSet_41 ?_
        refine JO_iload (pc := 44) dX12_fitSet_44 rfl ?_
        refine JO_iald (pc := 46) akX12_trackTold dX12_fitSet_46 ?_
        refine JO_iload_n (pc := 47) dX12_fitSet_47 rfl ?_
        refine JO_icmp_gt (pc := 48) (tgt := 108) dX12_fitSet_48 (by decide) ?_ ?_
        · exact JO_sub (l_sub_some (l_sub_some (l_sub_some (l_sub_some (l_sub_some (l_sub_some (l_sub_some (l_sub_nil)))))))) (w_X12_fitSet_108 G d _ (ih) x1 x2 x3 x4 x5 x6 σ)
        · refine JO_aload_n (pc := 51) dX12_fitSet_51 rfl ?_
          refine JO_getR (pc := 52) fl_X12_163 rfl fkX12_trackUntold dX12_fitSet_52 ?_
          refine JO_iload (pc := 55) dX12_fitSet_55 rfl ?_
          refine JO_iald (pc := 57) akX12_trackUntold dX12_fitSet_57 ?_
          refine JO_if_lt (pc := 58) (tgt := 72) dX12_fitSet_58 (by decide) ?_ ?_
          · exact JO_sub (l_sub_some (l_sub_some (l_sub_some (l_sub_some (l_sub_some (l_sub_some (l_sub_some (l_sub_nil)))))))) (w_X12_fitSet_72 G d _ (w_X12_fitSet_108 G d _ (ih)) x1 x2 x3 x4 x5 x6 σ)
          · refine JO_aload_n (pc := 61) dX12_fitSet_61 rfl ?_
            refine JO_getR (pc := 62) fl_X12_163 rfl fkX12_trackUntold dX12_fitSet_62 ?_
            refine JO_iload (pc := 65) dX12_fitSet_65 rfl ?_
            refine JO_iald (pc := 67) akX12_trackUntold dX12_fitSet_67 ?_
            refine JO_iload_n (pc := 68) dX12_fitSet_68 rfl ?_
            refine JO_icmp_le (pc := 69) (tgt := 108) dX12_fitSet_69 (by decide) ?_ ?_
            · exact JO_sub (l_sub_some (l_sub_some (l_sub_some (l_sub_some (l_sub_some (l_sub_some (l_sub_some (l_sub_nil)))))))) (w_X12_fitSet_108 G d _ (ih) x1 x2 x3 x4 x5 x6 σ)
            · exact JO_sub (l_sub_some (l_sub_some (l_sub_some (l_sub_some (l_sub_some (l_sub_some (l_sub_some (l_sub_nil)))))))) (w_X12_fitSet_72 G d _ (w_X12_fitSet_108 G d _ (ih)) x1 x2 x3 x4 x5 x6 σ)
set_option maxHeartbeats 4000000 in
set_option maxRecDepth 100000 in
theorem w_X12_fitSet_5 (G : JG) (d : Nat) : ∀ (n : Nat) (x1 : Int32) (x2 : Int32) (x3 : Int32) (x4 : Int32) (σ : Mem), JO G mX12_fitSet (d + 2) 5 [some (.ref (G.1 + off 1000)), some (.int x1), some (.int x2), some (.int x3), some (.int x4), none, none] [] σ rI (X12_fitSet_5 n x1 x2 x3 x4 σ) := by
  intro n
  induction n with
  | zero =>
    intro x1 x2 x3 x4 σ
    exact JO_none
  | succ n ih =>
    intro x1 x2 x3 x4 σ
    rw [X12_fitSet_5]
    refine JO_iload (pc := 5) dX12_fitSet_5 rfl ?_
    refine JO_aload_n (pc := 7) dX12_fitSet_7 rfl ?_
    refine JO_getI (pc := 8) fl_X12_401 rfl fkX12_people dX12_fitSet_8 ?_
    refine JO_icmp_ge (pc := 11) (tgt := 136) dX12_fitSet_11 (by decide) ?_ ?_
    · refine JO_iload_n (pc := 136) dX12_fitSet_136 rfl ?_
      exact JO_reti (pc := 137) rfl dX12_fitSet_137
    · refine JO_iconst (pc := 14) (a := 1) dX12_fitSet_14 (by decide) ?_
      refine JO_nm (fun v3 => ?_)
      refine JO_istore (pc := 15) (L' := [some (.ref (G.1 + off 1000)), some (.int x1), some (.int x2), some (.int x3), some (.int x4), some (.int v3), none]) dX12_fitSet_15 rfl rfl rfl ?_
      refine JO_iconst (pc := 17) (a := 0) dX12_fitSet_17 (by decide) ?_
      refine JO_nm (fun v4 => ?_)
      refine JO_istore (pc := 18) (L' := [some (.ref (G.1 + off 1000)), some (.int x1), some (.int x2), some (.int x3), some (.int x4), some (.int v3), some (.int v4)]) dX12_fitSet_18 rfl rfl rfl ?_
      exact JO_sub (l_sub_some (l_sub_some (l_sub_some (l_sub_some (l_sub_some (l_sub_some (l_sub_some (l_sub_nil)))))))) (w_X12_fitSet_20 G d _ (ih) fu x1 x2 x3 x4 v3 v4 σ)
set_option maxHeartbeats 4000000 in
set_option maxRecDepth 100000 in
theorem w_X12_fitSet (G : JG) (d : Nat) (x1 : Int32) (x2 : Int32) (σ : Mem) : JS G mX12_fitSet (d + 2) [.ref (G.1 + off 1000), .int x1, .int x2] σ rI (X12_fitSet x1 x2 σ) := by
  refine JS_of 4 (by decide +kernel) (Nat.le_of_ble_eq_true rfl) (L := [some (.ref (G.1 + off 1000)), some (.int x1), some (.int x2), none, none, none, none]) rfl ?_
  unfold X12_fitSet
  refine JO_iconst (pc := 0) (a := 0) dX12_fitSet_0 (by decide) ?_
  refine JO_nm (fun v1 => ?_)
  refine JO_istore_n (pc := 1) (L' := [some (.ref (G.1 + off 1000)), some (.int x1), some (.int x2), some (.int v1), none, none, none]) dX12_fitSet_1 rfl rfl rfl ?_
  refine JO_iconst (pc := 2) (a := 0) dX12_fitSet_2 (by decide) ?_
  refine JO_nm (fun v2 => ?_)
  refine JO_istore (pc := 3) (L' := [some (.ref (G.1 + off 1000)), some (.int x1), some (.int x2), some (.int v1), some (.int v2), none, none]) dX12_fitSet_3 rfl rfl rfl ?_
  exact JO_sub (l_sub_some (l_sub_some (l_sub_some (l_sub_some (l_sub_some (l_sub_none (l_sub_none (l_sub_nil)))))))) (w_X12_fitSet_5 G d fu x1 x2 v1 v2 σ)
set_option maxHeartbeats 4000000 in
set_option maxRecDepth 100000 in
theorem w_X12_fit (G : JG) (d : Nat) (x1 : Int32) (x2 : Int32) (σ : Mem) : JS G mX12_fit (d + 3) [.ref (G.1 + off 1000), .int x1, .int x2] σ rI (X12_fit x1 x2 σ) := by
  refine JS_of 0 (by decide +kernel) (Nat.le_of_ble_eq_true rfl) (L := [some (.ref (G.1 + off 1000)), some (.int x1), some (.int x2)]) rfl ?_
  unfold X12_fit
  refine JO_aload_n (pc := 0) dX12_fit_0 rfl ?_
  refine JO_iload_n (pc := 1) dX12_fit_1 rfl ?_
  refine JO_callVi (pc := 2) [.int x1] lk_X12_432 rfl (ci := 12) rfl shX12 (w_X12_isPerson G (d + 1) x1 σ) rfl rfl (Nat.le_of_ble_eq_true rfl) dX12_fit_2 (fun r1 => ?_)
  refine JO_if_eq (pc := 5) (tgt := 17) dX12_fit_5 (by decide) ?_ ?_
  · refine JO_iconst (pc := 17) (a := (-1)) dX12_fit_17 (by decide) ?_
    exact JO_reti (pc := 18) rfl dX12_fit_18
  · refine JO_aload_n (pc := 8) dX12_fit_8 rfl ?_
    refine JO_iload_n (pc := 9) dX12_fit_9 rfl ?_
    refine JO_iload_n (pc := 10) dX12_fit_10 rfl ?_
    refine JO_callVi (pc := 11) [.int x1, .int x2] lk_X12_553 rfl (ci := 12) rfl shX12 (w_X12_fitSet G d x1 x2 r1.2) rfl rfl (Nat.le_of_ble_eq_true rfl) dX12_fit_11 (fun r2 => ?_)
    refine JO_goto (pc := 14) (tgt := 18) dX12_fit_14 (by decide) ?_
    exact JO_reti (pc := 18) rfl dX12_fit_18
set_option maxHeartbeats 4000000 in
set_option maxRecDepth 100000 in
theorem w_X12_sham_29 (G : JG) (d : Nat) (k4 : Int32 → Int32 → Int32 → Mem → Option (Int32 × Mem)) (hk4 : ∀ (x1 : Int32) (x2 : Int32) (x3 : Int32) (σ : Mem), JO G mX12_sham (d + 3) 4 [some (.ref (G.1 + off 1000)), some (.int x1), some (.int x2), some (.int x3)] [] σ rI (k4 x1 x2 x3 σ)) : ∀ (x1 : Int32) (x3 : Int32) (s0 : Int32) (s1 : Int32) (σ : Mem), JO G mX12_sham (d + 3) 29 [some (.ref (G.1 + off 1000)), some (.int x1), none, some (.int x3)] [.int s0, .int s1] σ rI (X12_sham_29 k4 x1 x3 s0 s1 σ) := by
  intro x1 x3 s0 s1 σ
  unfold X12_sham_29
  refine JO_ior (pc := 29) dX12_sham_29 ?_
  refine JO_nm (fun v4 => ?_)
  refine JO_istore_n (pc := 30) (L' := [some (.ref (G.1 + off 1000)), some (.int x1), some (.int v4), some (.int x3)]) dX12_sham_30 rfl rfl rfl ?_
  refine JO_inc (pc := 31) (b := 1) (L' := fun v5 => [some (.ref (G.1 + off 1000)), some (.int x1), some (.int v4), some (.int v5)]) dX12_sham_31 rfl rfl (by decide) rfl (fun _ => rfl) (fun v5 => ?_)
  refine JO_goto (pc := 34) (tgt := 4) dX12_sham_34 (by decide) ?_
  exact JO_sub (l_sub_some (l_sub_some (l_sub_some (l_sub_some (l_sub_nil))))) (hk4 x1 v4 v5 σ)
set_option maxHeartbeats 4000000 in
set_option maxRecDepth 100000 in
theorem w_X12_sham_4 (G : JG) (d : Nat) : ∀ (n : Nat) (x1 : Int32) (x2 : Int32) (x3 : Int32) (σ : Mem), JO G mX12_sham (d + 3) 4 [some (.ref (G.1 + off 1000)), some (.int x1), some (.int x2), some (.int x3)] [] σ rI (X12_sham_4 n x1 x2 x3 σ) := by
  intro n
  induction n with
  | zero =>
    intro x1 x2 x3 σ
    exact JO_none
  | succ n ih =>
    intro x1 x2 x3 σ
    rw [X12_sham_4]
    refine JO_iload_n (pc := 4) dX12_sham_4 rfl ?_
    refine JO_aload_n (pc := 5) dX12_sham_5 rfl ?_
    refine JO_getI (pc := 6) fl_X12_401 rfl fkX12_people dX12_sham_6 ?_
    refine JO_icmp_ge (pc := 9) (tgt := 37) dX12_sham_9 (by decide) ?_ ?_
    · refine JO_iload_n (pc := 37) dX12_sham_37 rfl ?_
      exact JO_reti (pc := 38) rfl dX12_sham_38
    · refine JO_iload_n (pc := 12) dX12_sham_12 rfl ?_
      refine JO_aload_n (pc := 13) dX12_sham_13 rfl ?_
      refine JO_iload_n (pc := 14) dX12_sham_14 rfl ?_
      refine JO_iload_n (pc := 15) dX12_sham_15 rfl ?_
      refine JO_callVi (pc := 16) [.int x3, .int x1] lk_X12_553 rfl (ci := 12) rfl shX12 (w_X12_fitSet G d x3 x1 σ) rfl rfl (Nat.le_of_ble_eq_true rfl) dX12_sham_16 (fun r3 => ?_)
      refine JO_if_ne (pc := 19) (tgt := 28) dX12_sham_19 (by decide) ?_ ?_
      · refine JO_iconst (pc := 28) (a := 0) dX12_sham_28 (by decide) ?_
        exact JO_sub (l_sub_some (l_sub_some (l_sub_none (l_sub_some (l_sub_nil))))) (w_X12_sham_29 G d _ (ih) x1 x3 0 x2 r3.2)
      · refine JO_iconst (pc := 22) (a := 1) dX12_sham_22 (by decide) ?_
        refine JO_iload_n (pc := 23) dX12_sham_23 rfl ?_
        refine JO_ishl (pc := 24) dX12_sham_24 ?_
        refine JO_goto (pc := 25) (tgt := 29) dX12_sham_25 (by decide) ?_
        exact JO_sub (l_sub_some (l_sub_some (l_sub_none (l_sub_some (l_sub_nil))))) (w_X12_sham_29 G d _ (ih) x1 x3 (1 <<< (x3 &&& 31)) x2 r3.2)
set_option maxHeartbeats 4000000 in
set_option maxRecDepth 100000 in
theorem w_X12_sham (G : JG) (d : Nat) (x1 : Int32) (σ : Mem) : JS G mX12_sham (d + 3) [.ref (G.1 + off 1000), .int x1] σ rI (X12_sham x1 σ) := by
  refine JS_of 2 (by decide +kernel) (Nat.le_of_ble_eq_true rfl) (L := [some (.ref (G.1 + off 1000)), some (.int x1), none, none]) rfl ?_
  unfold X12_sham
  refine JO_iconst (pc := 0) (a := 0) dX12_sham_0 (by decide) ?_
  refine JO_nm (fun v1 => ?_)
  refine JO_istore_n (pc := 1) (L' := [some (.ref (G.1 + off 1000)), some (.int x1), some (.int v1), none]) dX12_sham_1 rfl rfl rfl ?_
  refine JO_iconst (pc := 2) (a := 0) dX12_sham_2 (by decide) ?_
  refine JO_nm (fun v2 => ?_)
  refine JO_istore_n (pc := 3) (L' := [some (.ref (G.1 + off 1000)), some (.int x1), some (.int v1), some (.int v2)]) dX12_sham_3 rfl rfl rfl ?_
  exact JO_sub (l_sub_some (l_sub_some (l_sub_some (l_sub_some (l_sub_nil))))) (w_X12_sham_4 G d fu x1 v1 v2 σ)
set_option maxHeartbeats 4000000 in
set_option maxRecDepth 100000 in
theorem w_X12_mostAt_70 (G : JG) (d : Nat) (k71 : Int32 → Int32 → Int32 → Int32 → Int32 → Int32 → Int32 → Int32 → Mem → Option (Int32 × Mem)) (hk71 : ∀ (x1 : Int32) (x2 : Int32) (x3 : Int32) (x4 : Int32) (x5 : Int32) (x7 : Int32) (s0 : Int32) (s1 : Int32) (σ : Mem), JO G mX12_mostAt (d + 2) 71 [some (.ref (G.1 + off 1000)), some (.int x1), some (.int x2), some (.int x3), some (.int x4), some (.int x5), none, some (.int x7)] [.int s0, .int s1] σ rI (k71 x1 x2 x3 x4 x5 x7 s0 s1 σ)) : ∀ (x1 : Int32) (x2 : Int32) (x3 : Int32) (x4 : Int32) (x5 : Int32) (x7 : Int32) (s0 : Int32) (σ : Mem), JO G mX12_mostAt (d + 2) 70 [some (.ref (G.1 + off 1000)), some (.int x1), some (.int x2), some (.int x3), some (.int x4), some (.int x5), none, some (.int x7)] [.int s0] σ rI (X12_mostAt_70 k71 x1 x2 x3 x4 x5 x7 s0 σ) := by
  intro x1 x2 x3 x4 x5 x7 s0 σ
  unfold X12_mostAt_70
  refine JO_iconst (pc := 70) (a := 0) dX12_mostAt_70 (by decide) ?_
  exact JO_sub (l_sub_some (l_sub_some (l_sub_some (l_sub_some (l_sub_some (l_sub_some (l_sub_none (l_sub_some (l_sub_nil))))))))) (hk71 x1 x2 x3 x4 x5 x7 0 s0 σ)
set_option maxHeartbeats 4000000 in
set_option maxRecDepth 100000 in
theorem w_X12_mostAt_71 (G : JG) (d : Nat) (k21 : Int32 → Int32 → Int32 → Int32 → Int32 → Int32 → Int32 → Mem → Option (Int32 × Mem)) (hk21 : ∀ (x1 : Int32) (x2 : Int32) (x3 : Int32) (x4 : Int32) (x5 : Int32) (x6 : Int32) (x7 : Int32) (σ : Mem), JO G mX12_mostAt (d + 2) 21 [some (.ref (G.1 + off 1000)), some (.int x1), some (.int x2), some (.int x3), some (.int x4), some (.int x5), some (.int x6), some (.int x7)] [] σ rI (k21 x1 x2 x3 x4 x5 x6 x7 σ)) : ∀ (x1 : Int32) (x2 : Int32) (x3 : Int32) (x4 : Int32) (x5 : Int32) (x7 : Int32) (s0 : Int32) (s1 : Int32) (σ : Mem), JO G mX12_mostAt (d + 2) 71 [some (.ref (G.1 + off 1000)), some (.int x1), some (.int x2), some (.int x3), some (.int x4), some (.int x5), none, some (.int x7)] [.int s0, .int s1] σ rI (X12_mostAt_71 k21 x1 x2 x3 x4 x5 x7 s0 s1 σ) := by
  intro x1 x2 x3 x4 x5 x7 s0 s1 σ
  unfold X12_mostAt_71
  refine JO_iadd (pc := 71) dX12_mostAt_71 ?_
  refine JO_nm (fun v8 => ?_)
  refine JO_istore (pc := 72) (L' := [some (.ref (G.1 + off 1000)), some (.int x1), some (.int x2), some (.int x3), some (.int x4), some (.int x5), some (.int v8), some (.int x7)]) dX12_mostAt_72 rfl rfl rfl ?_
  refine JO_inc (pc := 74) (b := 1) (L' := fun v9 => [some (.ref (G.1 + off 1000)), some (.int x1), some (.int x2), some (.int x3), some (.int x4), some (.int x5), some (.int v8), some (.int v9)]) dX12_mostAt_74 rfl rfl (by decide) rfl (fun _ => rfl) (fun v9 => ?_)
  refine JO_goto (pc := 77) (tgt := 21) dX12_mostAt_77 (by decide) ?_
  exact JO_sub (l_sub_some (l_sub_some (l_sub_some (l_sub_some (l_sub_some (l_sub_some (l_sub_some (l_sub_some (l_sub_nil))))))))) (hk21 x1 x2 x3 x4 x5 v8 v9 σ)
set_option maxHeartbeats 4000000 in
set_option maxRecDepth 100000 in
theorem w_X12_mostAt_94 (G : JG) (d : Nat) (k6 : Int32 → Int32 → Int32 → Int32 → Int32 → Mem → Option (Int32 × Mem)) (hk6 : ∀ (x1 : Int32) (x2 : Int32) (x3 : Int32) (x4 : Int32) (x5 : Int32) (σ : Mem), JO G mX12_mostAt (d + 2) 6 [some (.ref (G.1 + off 1000)), some (.int x1), some (.int x2), some (.int x3), some (.int x4), some (.int x5), none, none] [] σ rI (k6 x1 x2 x3 x4 x5 σ)) : ∀ (x1 : Int32) (x2 : Int32) (x3 : Int32) (x5 : Int32) (s0 : Int32) (σ : Mem), JO G mX12_mostAt (d + 2) 94 [some (.ref (G.1 + off 1000)), some (.int x1), some (.int x2), some (.int x3), none, some (.int x5), none, none] [.int s0] σ rI (X12_mostAt_94 k6 x1 x2 x3 x5 s0 σ) := by
  intro x1 x2 x3 x5 s0 σ
  unfold X12_mostAt_94
  refine JO_istore (pc := 94) (L' := [some (.ref (G.1 + off 1000)), some (.int x1), some (.int x2), some (.int x3), some (.int s0), some (.int x5), none, none]) dX12_mostAt_94 rfl rfl rfl ?_
  refine JO_inc (pc := 96) (b := 1) (L' := fun v7 => [some (.ref (G.1 + off 1000)), some (.int x1), some (.int x2), some (.int x3), some (.int s0), some (.int v7), none, none]) dX12_mostAt_96 rfl rfl (by decide) rfl (fun _ => rfl) (fun v7 => ?_)
  refine JO_goto (pc := 99) (tgt := 6) dX12_mostAt_99 (by decide) ?_
  exact JO_sub (l_sub_some (l_sub_some (l_sub_some (l_sub_some (l_sub_some (l_sub_some (l_sub_none (l_sub_none (l_sub_nil))))))))) (hk6 x1 x2 x3 s0 v7 σ)
set_option maxHeartbeats 4000000 in
set_option maxRecDepth 100000 in
theorem w_X12_mostAt_21 (G : JG) (d : Nat) (k6 : Int32 → Int32 → Int32 → Int32 → Int32 → Mem → Option (Int32 × Mem)) (hk6 : ∀ (x1 : Int32) (x2 : Int32) (x3 : Int32) (x4 : Int32) (x5 : Int32) (σ : Mem), JO G mX12_mostAt (d + 2) 6 [some (.ref (G.1 + off 1000)), some (.int x1), some (.int x2), some (.int x3), some (.int x4), some (.int x5), none, none] [] σ rI (k6 x1 x2 x3 x4 x5 σ)) : ∀ (n : Nat) (x1 : Int32) (x2 : Int32) (x3 : Int32) (x4 : Int32) (x5 : Int32) (x6 : Int32) (x7 : Int32) (σ : Mem), JO G mX12_mostAt (d + 2) 21 [some (.ref (G.1 + off 1000)), some (.int x1), some (.int x2), some (.int x3), some (.int x4), some (.int x5), some (.int x6), some (.int x7)] [] σ rI (X12_mostAt_21 k6 n x1 x2 x3 x4 x5 x6 x7 σ) := by
  intro n
  induction n with
  | zero =>
    intro x1 x2 x3 x4 x5 x6 x7 σ
    exact JO_none
  | succ n ih =>
    intro x1 x2 x3 x4 x5 x6 x7 σ
    rw [X12_mostAt_21]
    refine JO_iload (pc := 21) dX12_mostAt_21 rfl ?_
    refine JO_aload_n (pc := 23) dX12_mostAt_23 rfl ?_
    refine JO_getI (pc := 24) fl_X12_401 rfl fkX12_people dX12_mostAt_24 ?_
    refine JO_icmp_ge (pc := 27) (tgt := 80) dX12_mostAt_27 (by decide) ?_ ?_
    · refine JO_iload (pc := 80) dX12_mostAt_80 rfl ?_
      refine JO_iload (pc := 82) dX12_mostAt_82 rfl ?_
      refine JO_icmp_le (pc := 84) (tgt := 92) dX12_mostAt_84 (by decide) ?_ ?_
      · refine JO_iload (pc := 92) dX12_mostAt_92 rfl ?_
        exact JO_sub (l_sub_some (l_sub_some (l_sub_some (l_sub_some (l_sub_none (l_sub_some (l_sub_none (l_sub_none (l_sub_nil))))))))) (w_X12_mostAt_94 G d _ (hk6) x1 x2 x3 x5 x4 σ)
      · refine JO_iload (pc := 87) dX12_mostAt_87 rfl ?_
        refine JO_goto (pc := 89) (tgt := 94) dX12_mostAt_89 (by decide) ?_
        exact JO_sub (l_sub_some (l_sub_some (l_sub_some (l_sub_some (l_sub_none (l_sub_some (l_sub_none (l_sub_none (l_sub_nil))))))))) (w_X12_mostAt_94 G d _ (hk6) x1 x2 x3 x5 x6 σ)
    · refine JO_iload (pc := 30) dX12_mostAt_30 rfl ?_
      refine JO_iload_n (pc := 32) dX12_mostAt_32 rfl ?_
      refine JO_iload (pc := 33) dX12_mostAt_33 rfl ?_
      refine JO_ishr (pc := 35) dX12_mostAt_35 ?_
      refine JO_iload_n (pc := 36) dX12_mostAt_36 rfl ?_
      refine JO_iload (pc := 37) dX12_mostAt_37 rfl ?_
      refine JO_ishr (pc := 39) dX12_mostAt_39 ?_
      refine JO_iand (pc := 40) dX12_mostAt_40 ?_
      refine JO_iconst (pc := 41) (a := 1) dX12_mostAt_41 (by decide) ?_
      refine JO_iand (pc := 42) dX12_mostAt_42 ?_
      refine JO_iconst (pc := 43) (a := 1) dX12_mostAt_43 (by decide) ?_
      refine JO_icmp_ne (pc := 44) (tgt := 70) dX12_mostAt_44 (by decide) ?_ ?_
      · exact JO_sub (l_sub_some (l_sub_some (l_sub_some (l_sub_some (l_sub_some (l_sub_some (l_sub_none (l_sub_some (l_sub_nil))))))))) (w_X12_mostAt_70 G d _ (w_X12_mostAt_71 G d _ (ih)) x1 x2 x3 x4 x5 x7 x6 σ)
      · refine JO_aload_n (pc := 47) dX12_mostAt_47 rfl ?_
        refine JO_iload_n (pc := 48) dX12_mostAt_48 rfl ?_
        refine JO_iload (pc := 49) dX12_mostAt_49 rfl ?_
        refine JO_iload_n (pc := 51) dX12_mostAt_51 rfl ?_
        refine JO_callVi (pc := 52) [.int x1, .int x5, .int x3] lk_X12_550 rfl (ci := 12) rfl shX12 (w_X12_placeBy G d x1 x5 x3 σ) rfl rfl (Nat.le_of_ble_eq_true rfl) dX12_mostAt_52 (fun r5 => ?_)
        refine JO_aload_n (pc := 55) dX12_mostAt_55 rfl ?_
        refine JO_iload_n (pc := 56) dX12_mostAt_56 rfl ?_
        refine JO_iload (pc := 57) dX12_mostAt_57 rfl ?_
        refine JO_iload_n (pc := 59) dX12_mostAt_59 rfl ?_
        refine JO_callVi (pc := 60) [.int x1, .int x7, .int x3] lk_X12_550 rfl (ci := 12) rfl shX12 (w_X12_placeBy G d x1 x7 x3 r5.2) rfl rfl (Nat.le_of_ble_eq_true rfl) dX12_mostAt_60 (fun r6 => ?_)
        refine JO_icmp_ne (pc := 63) (tgt := 70) dX12_mostAt_63 (by decide) ?_ ?_
        · exact JO_sub (l_sub_some (l_sub_some (l_sub_some (l_sub_some (l_sub_some (l_sub_some (l_sub_none (l_sub_some (l_sub_nil))))))))) (w_X12_mostAt_70 G d _ (w_X12_mostAt_71 G d _ (ih)) x1 x2 x3 x4 x5 x7 x6 r6.2)
        · refine JO_iconst (pc := 66) (a := 1) dX12_mostAt_66 (by decide) ?_
          refine JO_goto (pc := 67) (tgt := 71) dX12_mostAt_67 (by decide) ?_
          exact JO_sub (l_sub_some (l_sub_some (l_sub_some (l_sub_some (l_sub_some (l_sub_some (l_sub_none (l_sub_some (l_sub_nil))))))))) (w_X12_mostAt_71 G d _ (ih) x1 x2 x3 x4 x5 x7 1 x6 r6.2)
set_option maxHeartbeats 4000000 in
set_option maxRecDepth 100000 in
theorem w_X12_mostAt_6 (G : JG) (d : Nat) : ∀ (n : Nat) (x1 : Int32) (x2 : Int32) (x3 : Int32) (x4 : Int32) (x5 : Int32) (σ : Mem), JO G mX12_mostAt (d + 2) 6 [some (.ref (G.1 + off 1000)), some (.int x1), some (.int x2), some (.int x3), some (.int x4), some (.int x5), none, none] [] σ rI (X12_mostAt_6 n x1 x2 x3 x4 x5 σ) := by
  intro n
  induction n with
  | zero =>
    intro x1 x2 x3 x4 x5 σ
    exact JO_none
  | succ n ih =>
    intro x1 x2 x3 x4 x5 σ
    rw [X12_mostAt_6]
    refine JO_iload (pc := 6) dX12_mostAt_6 rfl ?_
    refine JO_aload_n (pc := 8) dX12_mostAt_8 rfl ?_
    refine JO_getI (pc := 9) fl_X12_401 rfl fkX12_people dX12_mostAt_9 ?_
    refine JO_icmp_ge (pc := 12) (tgt := 102) dX12_mostAt_12 (by decide) ?_ ?_
    · refine JO_iload (pc := 102) dX12_mostAt_102 rfl ?_
      exact JO_reti (pc := 104) rfl dX12_mostAt_104
    · refine JO_iconst (pc := 15) (a := 0) dX12_mostAt_15 (by decide) ?_
      refine JO_nm (fun v3 => ?_)
      refine JO_istore (pc := 16) (L' := [some (.ref (G.1 + off 1000)), some (.int x1), some (.int x2), some (.int x3), some (.int x4), some (.int x5), some (.int v3), none]) dX12_mostAt_16 rfl rfl rfl ?_
      refine JO_iconst (pc := 18) (a := 0) dX12_mostAt_18 (by decide) ?_
      refine JO_nm (fun v4 => ?_)
      refine JO_istore (pc := 19) (L' := [some (.ref (G.1 + off 1000)), some (.int x1), some (.int x2), some (.int x3), some (.int x4), some (.int x5), some (.int v3), some (.int v4)]) dX12_mostAt_19 rfl rfl rfl ?_
      exact JO_sub (l_sub_some (l_sub_some (l_sub_some (l_sub_some (l_sub_some (l_sub_some (l_sub_some (l_sub_some (l_sub_nil))))))))) (w_X12_mostAt_21 G d _ (ih) fu x1 x2 x3 x4 x5 v3 v4 σ)
set_option maxHeartbeats 4000000 in
set_option maxRecDepth 100000 in
theorem w_X12_mostAt (G : JG) (d : Nat) (x1 : Int32) (x2 : Int32) (x3 : Int32) (σ : Mem) : JS G mX12_mostAt (d + 2) [.ref (G.1 + off 1000), .int x1, .int x2, .int x3] σ rI (X12_mostAt x1 x2 x3 σ) := by
  refine JS_of 4 (by decide +kernel) (Nat.le_of_ble_eq_true rfl) (L := [some (.ref (G.1 + off 1000)), some (.int x1), some (.int x2), some (.int x3), none, none, none, none]) rfl ?_
  unfold X12_mostAt
  refine JO_iconst (pc := 0) (a := 0) dX12_mostAt_0 (by decide) ?_
  refine JO_nm (fun v1 => ?_)
  refine JO_istore (pc := 1) (L' := [some (.ref (G.1 + off 1000)), some (.int x1), some (.int x2), some (.int x3), some (.int v1), none, none, none]) dX12_mostAt_1 rfl rfl rfl ?_
  refine JO_iconst (pc := 3) (a := 0) dX12_mostAt_3 (by decide) ?_
  refine JO_nm (fun v2 => ?_)
  refine JO_istore (pc := 4) (L' := [some (.ref (G.1 + off 1000)), some (.int x1), some (.int x2), some (.int x3), some (.int v1), some (.int v2), none, none]) dX12_mostAt_4 rfl rfl rfl ?_
  exact JO_sub (l_sub_some (l_sub_some (l_sub_some (l_sub_some (l_sub_some (l_sub_some (l_sub_none (l_sub_none (l_sub_nil))))))))) (w_X12_mostAt_6 G d fu x1 x2 x3 v1 v2 σ)
set_option maxHeartbeats 4000000 in
set_option maxRecDepth 100000 in
theorem w_X12_ask_74 (G : JG) (d : Nat) (k40 : Int32 → Int32 → Int32 → Int32 → Int32 → Mem → Option (Int32 × Mem)) (hk40 : ∀ (x1 : Int32) (x2 : Int32) (x4 : Int32) (x5 : Int32) (x6 : Int32) (σ : Mem), JO G mX12_ask (d + 3) 40 [some (.ref (G.1 + off 1000)), some (.int x1), some (.int x2), none, some (.int x4), some (.int x5), some (.int x6)] [] σ rI (k40 x1 x2 x4 x5 x6 σ)) : ∀ (x1 : Int32) (x2 : Int32) (x4 : Int32) (x5 : Int32) (x6 : Int32) (σ : Mem), JO G mX12_ask (d + 3) 74 [some (.ref (G.1 + off 1000)), some (.int x1), some (.int x2), none, some (.int x4), some (.int x5), some (.int x6)] [] σ rI (X12_ask_74 k40 x1 x2 x4 x5 x6 σ) := by
  intro x1 x2 x4 x5 x6 σ
  unfold X12_ask_74
  refine JO_inc (pc := 74) (b := 1) (L' := fun v10 => [some (.ref (G.1 + off 1000)), some (.int x1), some (.int x2), none, some (.int x4), some (.int x5), some (.int v10)]) dX12_ask_74 rfl rfl (by decide) rfl (fun _ => rfl) (fun v10 => ?_)
  refine JO_goto (pc := 77) (tgt := 40) dX12_ask_77 (by decide) ?_
  exact JO_sub (l_sub_some (l_sub_some (l_sub_some (l_sub_none (l_sub_some (l_sub_some (l_sub_some (l_sub_nil)))))))) (hk40 x1 x2 x4 x5 v10 σ)
set_option maxHeartbeats 4000000 in
set_option maxRecDepth 100000 in
theorem w_X12_ask_40 (G : JG) (d : Nat) : ∀ (n : Nat) (x1 : Int32) (x2 : Int32) (x4 : Int32) (x5 : Int32) (x6 : Int32) (σ : Mem), JO G mX12_ask (d + 3) 40 [some (.ref (G.1 + off 1000)), some (.int x1), some (.int x2), none, some (.int x4), some (.int x5), some (.int x6)] [] σ rI (X12_ask_40 n x1 x2 x4 x5 x6 σ) := by
  intro n
  induction n with
  | zero =>
    intro x1 x2 x4 x5 x6 σ
    exact JO_none
  | succ n ih =>
    intro x1 x2 x4 x5 x6 σ
    rw [X12_ask_40]
    refine JO_iload (pc := 40) dX12_ask_40 rfl ?_
    refine JO_aload_n (pc := 42) dX12_ask_42 rfl ?_
    refine JO_getI (pc := 43) fl_X12_96 rfl fkX12_day dX12_ask_43 ?_
    refine JO_icmp_ge (pc := 46) (tgt := 80) dX12_ask_46 (by decide) ?_ ?_
    · refine JO_iload_n (pc := 80) dX12_ask_80 rfl ?_
      refine JO_if_ne (pc := 81) (tgt := 89) dX12_ask_81 (by decide) ?_ ?_
      · refine JO_aload_n (pc := 89) dX12_ask_89 rfl ?_
        refine JO_iload_n (pc := 90) dX12_ask_90 rfl ?_
        refine JO_iload (pc := 91) dX12_ask_91 rfl ?_
        refine JO_iload (pc := 93) dX12_ask_93 rfl ?_
        refine JO_callVi (pc := 95) [.int x1, .int x4, .int x5] lk_X12_556 rfl (ci := 12) rfl shX12 (w_X12_mostAt G d x1 x4 x5 σ) rfl rfl (Nat.le_of_ble_eq_true rfl) dX12_ask_95 (fun r7 => ?_)
        exact JO_reti (pc := 98) rfl dX12_ask_98
      · refine JO_iload (pc := 84) dX12_ask_84 rfl ?_
        refine JO_goto (pc := 86) (tgt := 98) dX12_ask_86 (by decide) ?_
        exact JO_reti (pc := 98) rfl dX12_ask_98
    · refine JO_aload_n (pc := 49) dX12_ask_49 rfl ?_
      refine JO_iload_n (pc := 50) dX12_ask_50 rfl ?_
      refine JO_iload (pc := 51) dX12_ask_51 rfl ?_
      refine JO_iload (pc := 53) dX12_ask_53 rfl ?_
      refine JO_callVi (pc := 55) [.int x1, .int x4, .int x6] lk_X12_556 rfl (ci := 12) rfl shX12 (w_X12_mostAt G d x1 x4 x6 σ) rfl rfl (Nat.le_of_ble_eq_true rfl) dX12_ask_55 (fun r8 => ?_)
      refine JO_aload_n (pc := 58) dX12_ask_58 rfl ?_
      refine JO_iload_n (pc := 59) dX12_ask_59 rfl ?_
      refine JO_iload (pc := 60) dX12_ask_60 rfl ?_
      refine JO_iload (pc := 62) dX12_ask_62 rfl ?_
      refine JO_callVi (pc := 64) [.int x1, .int x4, .int x5] lk_X12_556 rfl (ci := 12) rfl shX12 (w_X12_mostAt G d x1 x4 x5 r8.2) rfl rfl (Nat.le_of_ble_eq_true rfl) dX12_ask_64 (fun r9 => ?_)
      refine JO_icmp_ge (pc := 67) (tgt := 74) dX12_ask_67 (by decide) ?_ ?_
      · exact JO_sub (l_sub_some (l_sub_some (l_sub_some (l_sub_none (l_sub_some (l_sub_some (l_sub_some (l_sub_nil)))))))) (w_X12_ask_74 G d _ (ih) x1 x2 x4 x5 x6 r9.2)
      · refine JO_iload (pc := 70) dX12_ask_70 rfl ?_
        refine JO_istore (pc := 72) (L' := [some (.ref (G.1 + off 1000)), some (.int x1), some (.int x2), none, some (.int x4), some (.int x6), some (.int x6)]) dX12_ask_72 rfl rfl rfl ?_
        exact JO_sub (l_sub_some (l_sub_some (l_sub_some (l_sub_none (l_sub_some (l_sub_some (l_sub_some (l_sub_nil)))))))) (w_X12_ask_74 G d _ (ih) x1 x2 x4 x6 x6 r9.2)
set_option maxHeartbeats 4000000 in
set_option maxRecDepth 100000 in
theorem w_X12_ask (G : JG) (d : Nat) (x1 : Int32) (x2 : Int32) (x3 : Int32) (σ : Mem) : JS G mX12_ask (d + 3) [.ref (G.1 + off 1000), .int x1, .int x2, .int x3] σ rI (X12_ask x1 x2 x3 σ) := by
  refine JS_of 3 (by decide +kernel) (Nat.le_of_ble_eq_true rfl) (L := [some (.ref (G.1 + off 1000)), some (.int x1), some (.int x2), some (.int x3), none, none, none]) rfl ?_
  unfold X12_ask
  refine JO_aload_n (pc := 0) dX12_ask_0 rfl ?_
  refine JO_iload_n (pc := 1) dX12_ask_1 rfl ?_
  refine JO_callVi (pc := 2) [.int x1] lk_X12_432 rfl (ci := 12) rfl shX12 (w_X12_isPerson G (d + 1) x1 σ) rfl rfl (Nat.le_of_ble_eq_true rfl) dX12_ask_2 (fun r1 => ?_)
  refine JO_if_eq (pc := 5) (tgt := 17) dX12_ask_5 (by decide) ?_ ?_
  · refine JO_iconst (pc := 17) (a := (-1)) dX12_ask_17 (by decide) ?_
    exact JO_reti (pc := 18) rfl dX12_ask_18
  · refine JO_iload_n (pc := 8) dX12_ask_8 rfl ?_
    refine JO_iconst (pc := 9) (a := 0) dX12_ask_9 (by decide) ?_
    refine JO_iconst (pc := 10) (a := 1) dX12_ask_10 (by decide) ?_
    refine JO_callSi (pc := 11) [.int x2, .int 0, .int 1] lk_X12_428 rfl (w_X12_isIn G (d + 2) x2 0 1 r1.2) rfl rfl (Nat.le_of_ble_eq_true rfl) dX12_ask_11 (fun r2 => ?_)
    refine JO_if_ne (pc := 14) (tgt := 19) dX12_ask_14 (by decide) ?_ ?_
    · refine JO_aload_n (pc := 19) dX12_ask_19 rfl ?_
      refine JO_iload_n (pc := 20) dX12_ask_20 rfl ?_
      refine JO_iload_n (pc := 21) dX12_ask_21 rfl ?_
      refine JO_callVi (pc := 22) [.int x1, .int x3] lk_X12_553 rfl (ci := 12) rfl shX12 (w_X12_fitSet G d x1 x3 r2.2) rfl rfl (Nat.le_of_ble_eq_true rfl) dX12_ask_22 (fun r3 => ?_)
      refine JO_nm (fun v4 => ?_)
      refine JO_istore (pc := 25) (L' := [some (.ref (G.1 + off 1000)), some (.int x1), some (.int x2), some (.int x3), some (.int v4), none, none]) dX12_ask_25 rfl rfl rfl ?_
      refine JO_iload (pc := 27) dX12_ask_27 rfl ?_
      refine JO_if_ne (pc := 29) (tgt := 34) dX12_ask_29 (by decide) ?_ ?_
      · refine JO_iconst (pc := 34) (a := 0) dX12_ask_34 (by decide) ?_
        refine JO_nm (fun v5 => ?_)
        refine JO_istore (pc := 35) (L' := [some (.ref (G.1 + off 1000)), some (.int x1), some (.int x2), some (.int x3), some (.int v4), some (.int v5), none]) dX12_ask_35 rfl rfl rfl ?_
        refine JO_iconst (pc := 37) (a := 1) dX12_ask_37 (by decide) ?_
        refine JO_nm (fun v6 => ?_)
        refine JO_istore (pc := 38) (L' := [some (.ref (G.1 + off 1000)), some (.int x1), some (.int x2), some (.int x3), some (.int v4), some (.int v5), some (.int v6)]) dX12_ask_38 rfl rfl rfl ?_
        exact JO_sub (l_sub_some (l_sub_some (l_sub_some (l_sub_none (l_sub_some (l_sub_some (l_sub_some (l_sub_nil)))))))) (w_X12_ask_40 G d fu x1 x2 v4 v5 v6 r3.2)
      · refine JO_iconst (pc := 32) (a := (-1)) dX12_ask_32 (by decide) ?_
        exact JO_reti (pc := 33) rfl dX12_ask_33
    · refine JO_iconst (pc := 17) (a := (-1)) dX12_ask_17 (by decide) ?_
      exact JO_reti (pc := 18) rfl dX12_ask_18
set_option maxHeartbeats 4000000 in
set_option maxRecDepth 100000 in
theorem w_X12_isBox (G : JG) (d : Nat) (x0 : Int32) (σ : Mem) : JS G mX12_isBox d [.int x0] σ rI (X12_isBox x0 σ) := by
  refine JS_of 0 (by decide +kernel) (Nat.le_of_ble_eq_true rfl) (L := [some (.int x0)]) rfl ?_
  unfold X12_isBox
  refine JO_iload_n (pc := 0) dX12_isBox_0 rfl ?_
  refine JO_if_lt (pc := 1) (tgt := 13) dX12_isBox_1 (by decide) ?_ ?_
  · refine JO_iconst (pc := 13) (a := 0) dX12_isBox_13 (by decide) ?_
    exact JO_retzc (pc := 14) (by decide) rfl dX12_isBox_14
  · refine JO_iload_n (pc := 4) dX12_isBox_4 rfl ?_
    refine JO_iconst (pc := 5) (a := 3) dX12_isBox_5 (by decide) ?_
    refine JO_icmp_ge (pc := 6) (tgt := 13) dX12_isBox_6 (by decide) ?_ ?_
    · refine JO_iconst (pc := 13) (a := 0) dX12_isBox_13 (by decide) ?_
      exact JO_retzc (pc := 14) (by decide) rfl dX12_isBox_14
    · refine JO_iconst (pc := 9) (a := 1) dX12_isBox_9 (by decide) ?_
      refine JO_goto (pc := 10) (tgt := 14) dX12_isBox_10 (by decide) ?_
      exact JO_retzc (pc := 14) (by decide) rfl dX12_isBox_14
set_option maxHeartbeats 4000000 in
set_option maxRecDepth 100000 in
theorem w_X12_image_18 (G : JG) (d : Nat) : ∀ (n : Nat) (x1 : Int32) (x2 : Int32) (σ : Mem), JO G mX12_image (d + 1) 18 [some (.ref (G.1 + off 1000)), some (.int x1), some (.int x2)] [] σ rI (X12_image_18 n x1 x2 σ) := by
  intro n
  induction n with
  | zero =>
    intro x1 x2 σ
    exact JO_none
  | succ n ih =>
    intro x1 x2 σ
    rw [X12_image_18]
    refine JO_iload_n (pc := 18) dX12_image_18 rfl ?_
    refine JO_bipush (pc := 19) (a := 63) dX12_image_19 (by decide) ?_
    refine JO_icmp_ge (pc := 21) (tgt := 47) dX12_image_21 (by decide) ?_ ?_
    · refine JO_aload_n (pc := 47) dX12_image_47 rfl ?_
      refine JO_getR (pc := 48) fl_X12_99 rfl fkX12_now dX12_image_48 ?_
      refine JO_bipush (pc := 51) (a := 62) dX12_image_51 (by decide) ?_
      refine JO_ialdc (pc := 53) (k := 62) akX12_now (by decide) (by decide) dX12_image_53 ?_
      exact JO_reti (pc := 54) rfl dX12_image_54
    · refine JO_aload_n (pc := 24) dX12_image_24 rfl ?_
      refine JO_getR (pc := 25) fl_X12_169 rfl fkX12_boxes dX12_image_25 ?_
      refine JO_bipush (pc := 28) (a := 64) dX12_image_28 (by decide) ?_
      refine JO_iload_n (pc := 30) dX12_image_30 rfl ?_
      refine JO_imul (pc := 31) dX12_image_31 ?_
      refine JO_iload_n (pc := 32) dX12_image_32 rfl ?_
      refine JO_iadd (pc := 33) dX12_image_33 ?_
      refine JO_aload_n (pc := 34) dX12_image_34 rfl ?_
      refine JO_getR (pc := 35) fl_X12_99 rfl fkX12_now dX12_image_35 ?_
      refine JO_iload_n (pc := 38) dX12_image_38 rfl ?_
      refine JO_iald (pc := 39) akX12_now dX12_image_39 ?_
      refine JO_iast (pc := 40) akX12_boxes dX12_image_40 (fun σ4 => ?_)
      refine JO_inc (pc := 41) (b := 1) (L' := fun v5 => [some (.ref (G.1 + off 1000)), some (.int x1), some (.int v5)]) dX12_image_41 rfl rfl (by decide) rfl (fun _ => rfl) (fun v5 => ?_)
      refine JO_goto (pc := 44) (tgt := 18) dX12_image_44 (by decide) ?_
      exact JO_sub (l_sub_some (l_sub_some (l_sub_some (l_sub_nil)))) (ih x1 v5 σ4)
set_option maxHeartbeats 4000000 in
set_option maxRecDepth 100000 in
theorem w_X12_image (G : JG) (d : Nat) (x1 : Int32) (σ : Mem) : JS G mX12_image (d + 1) [.ref (G.1 + off 1000), .int x1] σ rI (X12_image x1 σ) := by
  refine JS_of 1 (by decide +kernel) (Nat.le_of_ble_eq_true rfl) (L := [some (.ref (G.1 + off 1000)), some (.int x1), none]) rfl ?_
  unfold X12_image
  refine JO_iload_n (pc := 0) dX12_image_0 rfl ?_
  refine JO_callSi (pc := 1) [.int x1] lk_X12_559 rfl (w_X12_isBox G d x1 σ) rfl rfl (Nat.le_of_ble_eq_true rfl) dX12_image_1 (fun r1 => ?_)
  refine JO_if_ne (pc := 4) (tgt := 9) dX12_image_4 (by decide) ?_ ?_
  · refine JO_aload_n (pc := 9) dX12_image_9 rfl ?_
    refine JO_getR (pc := 10) fl_X12_166 rfl fkX12_hasBox dX12_image_10 ?_
    refine JO_iload_n (pc := 13) dX12_image_13 rfl ?_
    refine JO_iconst (pc := 14) (a := 1) dX12_image_14 (by decide) ?_
    refine JO_zastc (pc := 15) akX12_hasBox (by decide) dX12_image_15 (fun σ2 => ?_)
    refine JO_iconst (pc := 16) (a := 0) dX12_image_16 (by decide) ?_
    refine JO_nm (fun v3 => ?_)
    refine JO_istore_n (pc := 17) (L' := [some (.ref (G.1 + off 1000)), some (.int x1), some (.int v3)]) dX12_image_17 rfl rfl rfl ?_
    exact JO_sub (l_sub_some (l_sub_some (l_sub_some (l_sub_nil)))) (w_X12_image_18 G d fu x1 v3 σ2)
  · refine JO_iconst (pc := 7) (a := (-1)) dX12_image_7 (by decide) ?_
    exact JO_reti (pc := 8) rfl dX12_image_8
set_option maxHeartbeats 4000000 in
set_option maxRecDepth 100000 in
theorem w_X12_back_20 (G : JG) (d : Nat) : ∀ (n : Nat) (x1 : Int32) (x2 : Int32) (σ : Mem), JO G mX12_back (d + 1) 20 [some (.ref (G.1 + off 1000)), some (.int x1), some (.int x2)] [] σ rI (X12_back_20 n x1 x2 σ) := by
  intro n
  induction n with
  | zero =>
    intro x1 x2 σ
    exact JO_none
  | succ n ih =>
    intro x1 x2 σ
    rw [X12_back_20]
    refine JO_iload_n (pc := 20) dX12_back_20 rfl ?_
    refine JO_bipush (pc := 21) (a := 63) dX12_back_21 (by decide) ?_
    refine JO_icmp_ge (pc := 23) (tgt := 49) dX12_back_23 (by decide) ?_ ?_
    · refine JO_aload_n (pc := 49) dX12_back_49 rfl ?_
      refine JO_iconst (pc := 50) (a := 0) dX12_back_50 (by decide) ?_
      refine JO_putI (pc := 51) fl_X12_416 rfl fkX12_acts dX12_back_51 (fun σ3 => ?_)
      refine JO_aload_n (pc := 54) dX12_back_54 rfl ?_
      refine JO_iconst (pc := 55) (a := 0) dX12_back_55 (by decide) ?_
      refine JO_putI (pc := 56) fl_X12_419 rfl fkX12_undone dX12_back_56 (fun σ4 => ?_)
      refine JO_aload_n (pc := 59) dX12_back_59 rfl ?_
      refine JO_getR (pc := 60) fl_X12_99 rfl fkX12_now dX12_back_60 ?_
      refine JO_bipush (pc := 63) (a := 62) dX12_back_63 (by decide) ?_
      refine JO_ialdc (pc := 65) (k := 62) akX12_now (by decide) (by decide) dX12_back_65 ?_
      exact JO_reti (pc := 66) rfl dX12_back_66
    · refine JO_aload_n (pc := 26) dX12_back_26 rfl ?_
      refine JO_getR (pc := 27) fl_X12_99 rfl fkX12_now dX12_back_27 ?_
      refine JO_iload_n (pc := 30) dX12_back_30 rfl ?_
      refine JO_aload_n (pc := 31) dX12_back_31 rfl ?_
      refine JO_getR (pc := 32) fl_X12_169 rfl fkX12_boxes dX12_back_32 ?_
      refine JO_bipush (pc := 35) (a := 64) dX12_back_35 (by decide) ?_
      refine JO_iload_n (pc := 37) dX12_back_37 rfl ?_
      refine JO_imul (pc := 38) dX12_back_38 ?_
      refine JO_iload_n (pc := 39) dX12_back_39 rfl ?_
      refine JO_iadd (pc := 40) dX12_back_40 ?_
      refine JO_iald (pc := 41) akX12_boxes dX12_back_41 ?_
      refine JO_iast (pc := 42) akX12_now dX12_back_42 (fun σ5 => ?_)
      refine JO_inc (pc := 43) (b := 1) (L' := fun v6 => [some (.ref (G.1 + off 1000)), some (.int x1), some (.int v6)]) dX12_back_43 rfl rfl (by decide) rfl (fun _ => rfl) (fun v6 => ?_)
      refine JO_goto (pc := 46) (tgt := 20) dX12_back_46 (by decide) ?_
      exact JO_sub (l_sub_some (l_sub_some (l_sub_some (l_sub_nil)))) (ih x1 v6 σ5)
set_option maxHeartbeats 4000000 in
set_option maxRecDepth 100000 in
theorem w_X12_back (G : JG) (d : Nat) (x1 : Int32) (σ : Mem) : JS G mX12_back (d + 1) [.ref (G.1 + off 1000), .int x1] σ rI (X12_back x1 σ) := by
  refine JS_of 1 (by decide +kernel) (Nat.le_of_ble_eq_true rfl) (L := [some (.ref (G.1 + off 1000)), some (.int x1), none]) rfl ?_
  unfold X12_back
  refine JO_iload_n (pc := 0) dX12_back_0 rfl ?_
  refine JO_callSi (pc := 1) [.int x1] lk_X12_559 rfl (w_X12_isBox G d x1 σ) rfl rfl (Nat.le_of_ble_eq_true rfl) dX12_back_1 (fun r1 => ?_)
  refine JO_if_eq (pc := 4) (tgt := 16) dX12_back_4 (by decide) ?_ ?_
  · refine JO_iconst (pc := 16) (a := (-1)) dX12_back_16 (by decide) ?_
    exact JO_reti (pc := 17) rfl dX12_back_17
  · refine JO_aload_n (pc := 7) dX12_back_7 rfl ?_
    refine JO_getR (pc := 8) fl_X12_166 rfl fkX12_hasBox dX12_back_8 ?_
    refine JO_iload_n (pc := 11) dX12_back_11 rfl ?_
    refine JO_zald (pc := 12) akX12_hasBox dX12_back_12 ?_
    refine JO_if_ne (pc := 13) (tgt := 18) dX12_back_13 (by decide) ?_ ?_
    · refine JO_iconst (pc := 18) (a := 0) dX12_back_18 (by decide) ?_
      refine JO_nm (fun v2 => ?_)
      refine JO_istore_n (pc := 19) (L' := [some (.ref (G.1 + off 1000)), some (.int x1), some (.int v2)]) dX12_back_19 rfl rfl rfl ?_
      exact JO_sub (l_sub_some (l_sub_some (l_sub_some (l_sub_nil)))) (w_X12_back_20 G d fu x1 v2 r1.2)
    · refine JO_iconst (pc := 16) (a := (-1)) dX12_back_16 (by decide) ?_
      exact JO_reti (pc := 17) rfl dX12_back_17
set_option maxHeartbeats 4000000 in
set_option maxRecDepth 100000 in
theorem w_X12_numbers_40 (G : JG) (d : Nat) (k4 : Int32 → Int32 → Mem → Option (Int32 × Mem)) (hk4 : ∀ (x1 : Int32) (x2 : Int32) (σ : Mem), JO G mX12_numbers (d + 1) 4 [some (.ref (G.1 + off 1000)), some (.int x1), some (.int x2)] [] σ rI (k4 x1 x2 σ)) : ∀ (x2 : Int32) (s0 : Int32) (s1 : Int32) (σ : Mem), JO G mX12_numbers (d + 1) 40 [some (.ref (G.1 + off 1000)), none, some (.int x2)] [.int s0, .int s1] σ rI (X12_numbers_40 k4 x2 s0 s1 σ) := by
  intro x2 s0 s1 σ
  unfold X12_numbers_40
  refine JO_callSi (pc := 40) [.int s0] lk_X12_343 rfl (w_X12_truth G d s0 σ) rfl rfl (Nat.le_of_ble_eq_true rfl) dX12_numbers_40 (fun r3 => ?_)
  refine JO_iadd (pc := 43) dX12_numbers_43 ?_
  refine JO_nm (fun v4 => ?_)
  refine JO_istore_n (pc := 44) (L' := [some (.ref (G.1 + off 1000)), some (.int v4), some (.int x2)]) dX12_numbers_44 rfl rfl rfl ?_
  refine JO_inc (pc := 45) (b := 1) (L' := fun v5 => [some (.ref (G.1 + off 1000)), some (.int v4), some (.int v5)]) dX12_numbers_45 rfl rfl (by decide) rfl (fun _ => rfl) (fun v5 => ?_)
  refine JO_goto (pc := 48) (tgt := 4) dX12_numbers_48 (by decide) ?_
  exact JO_sub (l_sub_some (l_sub_some (l_sub_some (l_sub_nil)))) (hk4 v4 v5 r3.2)
set_option maxHeartbeats 4000000 in
set_option maxRecDepth 100000 in
theorem w_X12_numbers_22 (G : JG) (d : Nat) (k4 : Int32 → Int32 → Mem → Option (Int32 × Mem)) (hk4 : ∀ (x1 : Int32) (x2 : Int32) (σ : Mem), JO G mX12_numbers (d + 1) 4 [some (.ref (G.1 + off 1000)), some (.int x1), some (.int x2)] [] σ rI (k4 x1 x2 σ)) : ∀ (x1 : Int32) (x2 : Int32) (s0 : Int32) (s1 : Int32) (σ : Mem), JO G mX12_numbers (d + 1) 22 [some (.ref (G.1 + off 1000)), some (.int x1), some (.int x2)] [.int s0, .int s1] σ rI (X12_numbers_22 k4 x1 x2 s0 s1 σ) := by
  intro x1 x2 s0 s1 σ
  unfold X12_numbers_22
  refine JO_icmp_ge (pc := 22) (tgt := 51) dX12_numbers_22 (by decide) ?_ ?_
  · refine JO_iload_n (pc := 51) dX12_numbers_51 rfl ?_
    exact JO_reti (pc := 52) rfl dX12_numbers_52
  · refine JO_iload_n (pc := 25) dX12_numbers_25 rfl ?_
    refine JO_aload_n (pc := 26) dX12_numbers_26 rfl ?_
    refine JO_getR (pc := 27) fl_X12_30 rfl fkX12_step dX12_numbers_27 ?_
    refine JO_iload_n (pc := 30) dX12_numbers_30 rfl ?_
    refine JO_iald (pc := 31) akX12_step dX12_numbers_31 ?_
    refine JO_if_ne (pc := 32) (tgt := 39) dX12_numbers_32 (by decide) ?_ ?_
    · refine JO_iconst (pc := 39) (a := 0) dX12_numbers_39 (by decide) ?_
      exact JO_sub (l_sub_some (l_sub_none (l_sub_some (l_sub_nil)))) (w_X12_numbers_40 G d _ (hk4) x2 0 x1 σ)
    · refine JO_iconst (pc := 35) (a := 1) dX12_numbers_35 (by decide) ?_
      refine JO_goto (pc := 36) (tgt := 40) dX12_numbers_36 (by decide) ?_
      exact JO_sub (l_sub_some (l_sub_none (l_sub_some (l_sub_nil)))) (w_X12_numbers_40 G d _ (hk4) x2 1 x1 σ)
set_option maxHeartbeats 4000000 in
set_option maxRecDepth 100000 in
theorem w_X12_numbers_4 (G : JG) (d : Nat) : ∀ (n : Nat) (x1 : Int32) (x2 : Int32) (σ : Mem), JO G mX12_numbers (d + 1) 4 [some (.ref (G.1 + off 1000)), some (.int x1), some (.int x2)] [] σ rI (X12_numbers_4 n x1 x2 σ) := by
  intro n
  induction n with
  | zero =>
    intro x1 x2 σ
    exact JO_none
  | succ n ih =>
    intro x1 x2 σ
    rw [X12_numbers_4]
    refine JO_iload_n (pc := 4) dX12_numbers_4 rfl ?_
    refine JO_aload_n (pc := 5) dX12_numbers_5 rfl ?_
    refine JO_getI (pc := 6) fl_X12_404 rfl fkX12_hasLaw dX12_numbers_6 ?_
    refine JO_if_eq (pc := 9) (tgt := 21) dX12_numbers_9 (by decide) ?_ ?_
    · refine JO_iconst (pc := 21) (a := 0) dX12_numbers_21 (by decide) ?_
      exact JO_sub (l_sub_some (l_sub_some (l_sub_some (l_sub_nil)))) (w_X12_numbers_22 G d _ (ih) x1 x2 0 x2 σ)
    · refine JO_aload_n (pc := 12) dX12_numbers_12 rfl ?_
      refine JO_getR (pc := 13) fl_X12_36 rfl fkX12_many dX12_numbers_13 ?_
      refine JO_iconst (pc := 16) (a := 0) dX12_numbers_16 (by decide) ?_
      refine JO_ialdc (pc := 17) (k := 0) akX12_many (by decide) (by decide) dX12_numbers_17 ?_
      refine JO_goto (pc := 18) (tgt := 22) dX12_numbers_18 (by decide) ?_
      exact JO_sub (l_sub_some (l_sub_some (l_sub_some (l_sub_nil)))) (w_X12_numbers_22 G d _ (ih) x1 x2 (σ.1 1008 0) x2 σ)
set_option maxHeartbeats 4000000 in
set_option maxRecDepth 100000 in
theorem w_X12_numbers (G : JG) (d : Nat) (σ : Mem) : JS G mX12_numbers (d + 1) [.ref (G.1 + off 1000)] σ rI (X12_numbers σ) := by
  refine JS_of 2 (by decide +kernel) (Nat.le_of_ble_eq_true rfl) (L := [some (.ref (G.1 + off 1000)), none, none]) rfl ?_
  unfold X12_numbers
  refine JO_iconst (pc := 0) (a := 0) dX12_numbers_0 (by decide) ?_
  refine JO_nm (fun v1 => ?_)
  refine JO_istore_n (pc := 1) (L' := [some (.ref (G.1 + off 1000)), some (.int v1), none]) dX12_numbers_1 rfl rfl rfl ?_
  refine JO_iconst (pc := 2) (a := 0) dX12_numbers_2 (by decide) ?_
  refine JO_nm (fun v2 => ?_)
  refine JO_istore_n (pc := 3) (L' := [some (.ref (G.1 + off 1000)), some (.int v1), some (.int v2)]) dX12_numbers_3 rfl rfl rfl ?_
  exact JO_sub (l_sub_some (l_sub_some (l_sub_some (l_sub_nil)))) (w_X12_numbers_4 G d fu v1 v2 σ)
set_option maxHeartbeats 4000000 in
set_option maxRecDepth 100000 in
theorem w_X12_debts_28 (G : JG) (d : Nat) (k4 : Int32 → Int32 → Mem → Option (Int32 × Mem)) (hk4 : ∀ (x1 : Int32) (x2 : Int32) (σ : Mem), JO G mX12_debts (d + 1) 4 [some (.ref (G.1 + off 1000)), some (.int x1), some (.int x2)] [] σ rI (k4 x1 x2 σ)) : ∀ (x2 : Int32) (s0 : Int32) (s1 : Int32) (σ : Mem), JO G mX12_debts (d + 1) 28 [some (.ref (G.1 + off 1000)), none, some (.int x2)] [.int s0, .int s1] σ rI (X12_debts_28 k4 x2 s0 s1 σ) := by
  intro x2 s0 s1 σ
  unfold X12_debts_28
  refine JO_callSi (pc := 28) [.int s0] lk_X12_343 rfl (w_X12_truth G d s0 σ) rfl rfl (Nat.le_of_ble_eq_true rfl) dX12_debts_28 (fun r3 => ?_)
  refine JO_iadd (pc := 31) dX12_debts_31 ?_
  refine JO_nm (fun v4 => ?_)
  refine JO_istore_n (pc := 32) (L' := [some (.ref (G.1 + off 1000)), some (.int v4), some (.int x2)]) dX12_debts_32 rfl rfl rfl ?_
  refine JO_inc (pc := 33) (b := 1) (L' := fun v5 => [some (.ref (G.1 + off 1000)), some (.int v4), some (.int v5)]) dX12_debts_33 rfl rfl (by decide) rfl (fun _ => rfl) (fun v5 => ?_)
  refine JO_goto (pc := 36) (tgt := 4) dX12_debts_36 (by decide) ?_
  exact JO_sub (l_sub_some (l_sub_some (l_sub_some (l_sub_nil)))) (hk4 v4 v5 r3.2)
set_option maxHeartbeats 4000000 in
set_option maxRecDepth 100000 in
theorem w_X12_debts_4 (G : JG) (d : Nat) : ∀ (n : Nat) (x1 : Int32) (x2 : Int32) (σ : Mem), JO G mX12_debts (d + 1) 4 [some (.ref (G.1 + off 1000)), some (.int x1), some (.int x2)] [] σ rI (X12_debts_4 n x1 x2 σ) := by
  intro n
  induction n with
  | zero =>
    intro x1 x2 σ
    exact JO_none
  | succ n ih =>
    intro x1 x2 σ
    rw [X12_debts_4]
    refine JO_iload_n (pc := 4) dX12_debts_4 rfl ?_
    refine JO_bipush (pc := 5) (a := 36) dX12_debts_5 (by decide) ?_
    refine JO_icmp_ge (pc := 7) (tgt := 39) dX12_debts_7 (by decide) ?_ ?_
    · refine JO_iload_n (pc := 39) dX12_debts_39 rfl ?_
      exact JO_reti (pc := 40) rfl dX12_debts_40
    · refine JO_iload_n (pc := 10) dX12_debts_10 rfl ?_
      refine JO_aload_n (pc := 11) dX12_debts_11 rfl ?_
      refine JO_getR (pc := 12) fl_X12_99 rfl fkX12_now dX12_debts_12 ?_
      refine JO_bipush (pc := 15) (a := 24) dX12_debts_15 (by decide) ?_
      refine JO_iload_n (pc := 17) dX12_debts_17 rfl ?_
      refine JO_iadd (pc := 18) dX12_debts_18 ?_
      refine JO_iald (pc := 19) akX12_now dX12_debts_19 ?_
      refine JO_if_le (pc := 20) (tgt := 27) dX12_debts_20 (by decide) ?_ ?_
      · refine JO_iconst (pc := 27) (a := 0) dX12_debts_27 (by decide) ?_
        exact JO_sub (l_sub_some (l_sub_none (l_sub_some (l_sub_nil)))) (w_X12_debts_28 G d _ (ih) x2 0 x1 σ)
      · refine JO_iconst (pc := 23) (a := 1) dX12_debts_23 (by decide) ?_
        refine JO_goto (pc := 24) (tgt := 28) dX12_debts_24 (by decide) ?_
        exact JO_sub (l_sub_some (l_sub_none (l_sub_some (l_sub_nil)))) (w_X12_debts_28 G d _ (ih) x2 1 x1 σ)
set_option maxHeartbeats 4000000 in
set_option maxRecDepth 100000 in
theorem w_X12_debts (G : JG) (d : Nat) (σ : Mem) : JS G mX12_debts (d + 1) [.ref (G.1 + off 1000)] σ rI (X12_debts σ) := by
  refine JS_of 2 (by decide +kernel) (Nat.le_of_ble_eq_true rfl) (L := [some (.ref (G.1 + off 1000)), none, none]) rfl ?_
  unfold X12_debts
  refine JO_iconst (pc := 0) (a := 0) dX12_debts_0 (by decide) ?_
  refine JO_nm (fun v1 => ?_)
  refine JO_istore_n (pc := 1) (L' := [some (.ref (G.1 + off 1000)), some (.int v1), none]) dX12_debts_1 rfl rfl rfl ?_
  refine JO_iconst (pc := 2) (a := 0) dX12_debts_2 (by decide) ?_
  refine JO_nm (fun v2 => ?_)
  refine JO_istore_n (pc := 3) (L' := [some (.ref (G.1 + off 1000)), some (.int v1), some (.int v2)]) dX12_debts_3 rfl rfl rfl ?_
  exact JO_sub (l_sub_some (l_sub_some (l_sub_some (l_sub_nil)))) (w_X12_debts_4 G d fu v1 v2 σ)
set_option maxHeartbeats 4000000 in
set_option maxRecDepth 100000 in
theorem w_X12_about (G : JG) (d : Nat) (x1 : Int32) (σ : Mem) : JS G mX12_about (d + 2) [.ref (G.1 + off 1000), .int x1] σ rI (X12_about x1 σ) := by
  refine JS_of 0 (by decide +kernel) (Nat.le_of_ble_eq_true rfl) (L := [some (.ref (G.1 + off 1000)), some (.int x1)]) rfl ?_
  unfold X12_about
  refine JO_iload_n (pc := 0) dX12_about_0 rfl ?_
  refine JO_ite (fun hc0 => ?_) (fun hc0 => ?_)
  · rw [hc0]
    refine JO_tin (pc := 1) (tgt := 72) dX12_about_1 (by decide) (by decide) rfl (by decide) ?_
    refine JO_aload_n (pc := 72) dX12_about_72 rfl ?_
    refine JO_getI (pc := 73) fl_X12_401 rfl fkX12_people dX12_about_73 ?_
    exact JO_reti (pc := 76) rfl dX12_about_76
  refine JO_ite (fun hc1 => ?_) (fun hc1 => ?_)
  · rw [hc1]
    refine JO_tin (pc := 1) (tgt := 77) dX12_about_1 (by decide) (by decide) rfl (by decide) ?_
    refine JO_aload_n (pc := 77) dX12_about_77 rfl ?_
    refine JO_getI (pc := 78) fl_X12_96 rfl fkX12_day dX12_about_78 ?_
    exact JO_reti (pc := 81) rfl dX12_about_81
  refine JO_ite (fun hc2 => ?_) (fun hc2 => ?_)
  · rw [hc2]
    refine JO_tin (pc := 1) (tgt := 82) dX12_about_1 (by decide) (by decide) rfl (by decide) ?_
    refine JO_aload_n (pc := 82) dX12_about_82 rfl ?_
    refine JO_getR (pc := 83) fl_X12_99 rfl fkX12_now dX12_about_83 ?_
    refine JO_bipush (pc := 86) (a := 60) dX12_about_86 (by decide) ?_
    refine JO_ialdc (pc := 88) (k := 60) akX12_now (by decide) (by decide) dX12_about_88 ?_
    exact JO_reti (pc := 89) rfl dX12_about_89
  refine JO_ite (fun hc3 => ?_) (fun hc3 => ?_)
  · rw [hc3]
    refine JO_tin (pc := 1) (tgt := 90) dX12_about_1 (by decide) (by decide) rfl (by decide) ?_
    refine JO_aload_n (pc := 90) dX12_about_90 rfl ?_
    refine JO_getR (pc := 91) fl_X12_99 rfl fkX12_now dX12_about_91 ?_
    refine JO_bipush (pc := 94) (a := 61) dX12_about_94 (by decide) ?_
    refine JO_ialdc (pc := 96) (k := 61) akX12_now (by decide) (by decide) dX12_about_96 ?_
    exact JO_reti (pc := 97) rfl dX12_about_97
  refine JO_ite (fun hc4 => ?_) (fun hc4 => ?_)
  · rw [hc4]
    refine JO_tin (pc := 1) (tgt := 98) dX12_about_1 (by decide) (by decide) rfl (by decide) ?_
    refine JO_aload_n (pc := 98) dX12_about_98 rfl ?_
    refine JO_getR (pc := 99) fl_X12_99 rfl fkX12_now dX12_about_99 ?_
    refine JO_bipush (pc := 102) (a := 62) dX12_about_102 (by decide) ?_
    refine JO_ialdc (pc := 104) (k := 62) akX12_now (by decide) (by decide) dX12_about_104 ?_
    exact JO_reti (pc := 105) rfl dX12_about_105
  refine JO_ite (fun hc5 => ?_) (fun hc5 => ?_)
  · rw [hc5]
    refine JO_tin (pc := 1) (tgt := 106) dX12_about_1 (by decide) (by decide) rfl (by decide) ?_
    refine JO_aload_n (pc := 106) dX12_about_106 rfl ?_
    refine JO_getI (pc := 107) fl_X12_416 rfl fkX12_acts dX12_about_107 ?_
    exact JO_reti (pc := 110) rfl dX12_about_110
  refine JO_ite (fun hc6 => ?_) (fun hc6 => ?_)
  · rw [hc6]
    refine JO_tin (pc := 1) (tgt := 111) dX12_about_1 (by decide) (by decide) rfl (by decide) ?_
    refine JO_aload_n (pc := 111) dX12_about_111 rfl ?_
    refine JO_getI (pc := 112) fl_X12_419 rfl fkX12_undone dX12_about_112 ?_
    exact JO_reti (pc := 115) rfl dX12_about_115
  refine JO_ite (fun hc7 => ?_) (fun hc7 => ?_)
  · rw [hc7]
    refine JO_tin (pc := 1) (tgt := 116) dX12_about_1 (by decide) (by decide) rfl (by decide) ?_
    refine JO_aload_n (pc := 116) dX12_about_116 rfl ?_
    refine JO_getI (pc := 117) fl_X12_422 rfl fkX12_tracks dX12_about_117 ?_
    exact JO_reti (pc := 120) rfl dX12_about_120
  refine JO_ite (fun hc8 => ?_) (fun hc8 => ?_)
  · rw [hc8]
    refine JO_tin (pc := 1) (tgt := 121) dX12_about_1 (by decide) (by decide) rfl (by decide) ?_
    refine JO_aload_n (pc := 121) dX12_about_121 rfl ?_
    refine JO_getI (pc := 122) fl_X12_546 rfl fkX12_time dX12_about_122 ?_
    exact JO_reti (pc := 125) rfl dX12_about_125
  refine JO_ite (fun hc9 => ?_) (fun hc9 => ?_)
  · rw [hc9]
    refine JO_tin (pc := 1) (tgt := 126) dX12_about_1 (by decide) (by decide) rfl (by decide) ?_
    refine JO_aload_n (pc := 126) dX12_about_126 rfl ?_
    refine JO_getI (pc := 127) fl_X12_172 rfl fkX12_taped dX12_about_127 ?_
    exact JO_reti (pc := 130) rfl dX12_about_130
  refine JO_ite (fun hc10 => ?_) (fun hc10 => ?_)
  · rw [hc10]
    refine JO_tin (pc := 1) (tgt := 131) dX12_about_1 (by decide) (by decide) rfl (by decide) ?_
    refine JO_aload_n (pc := 131) dX12_about_131 rfl ?_
    refine JO_getI (pc := 132) fl_X12_413 rfl fkX12_units dX12_about_132 ?_
    exact JO_reti (pc := 135) rfl dX12_about_135
  refine JO_ite (fun hc11 => ?_) (fun hc11 => ?_)
  · rw [hc11]
    refine JO_tin (pc := 1) (tgt := 136) dX12_about_1 (by decide) (by decide) rfl (by decide) ?_
    refine JO_aload_n (pc := 136) dX12_about_136 rfl ?_
    refine JO_callVi (pc := 137) [] lk_X12_562 rfl (ci := 12) rfl shX12 (w_X12_numbers G d  σ) rfl rfl (Nat.le_of_ble_eq_true rfl) dX12_about_137 (fun r1 => ?_)
    exact JO_reti (pc := 140) rfl dX12_about_140
  refine JO_ite (fun hc12 => ?_) (fun hc12 => ?_)
  · rw [hc12]
    refine JO_tin (pc := 1) (tgt := 141) dX12_about_1 (by decide) (by decide) rfl (by decide) ?_
    refine JO_aload_n (pc := 141) dX12_about_141 rfl ?_
    refine JO_getI (pc := 142) fl_X12_425 rfl fkX12_lain dX12_about_142 ?_
    exact JO_reti (pc := 145) rfl dX12_about_145
  refine JO_ite (fun hc13 => ?_) (fun hc13 => ?_)
  · rw [hc13]
    refine JO_tin (pc := 1) (tgt := 146) dX12_about_1 (by decide) (by decide) rfl (by decide) ?_
    refine JO_aload_n (pc := 146) dX12_about_146 rfl ?_
    refine JO_callVi (pc := 147) [] lk_X12_565 rfl (ci := 12) rfl shX12 (w_X12_debts G d  σ) rfl rfl (Nat.le_of_ble_eq_true rfl) dX12_about_147 (fun r2 => ?_)
    exact JO_reti (pc := 150) rfl dX12_about_150
  have z0 : x1.toInt ≠ 0 := ne_toInt hc0
  have z1 : x1.toInt ≠ 1 := ne_toInt hc1
  have z2 : x1.toInt ≠ 2 := ne_toInt hc2
  have z3 : x1.toInt ≠ 3 := ne_toInt hc3
  have z4 : x1.toInt ≠ 4 := ne_toInt hc4
  have z5 : x1.toInt ≠ 5 := ne_toInt hc5
  have z6 : x1.toInt ≠ 6 := ne_toInt hc6
  have z7 : x1.toInt ≠ 7 := ne_toInt hc7
  have z8 : x1.toInt ≠ 8 := ne_toInt hc8
  have z9 : x1.toInt ≠ 9 := ne_toInt hc9
  have z10 : x1.toInt ≠ 10 := ne_toInt hc10
  have z11 : x1.toInt ≠ 11 := ne_toInt hc11
  have z12 : x1.toInt ≠ 12 := ne_toInt hc12
  have z13 : x1.toInt ≠ 13 := ne_toInt hc13
  refine JO_tout (pc := 1) (tgt := 151) dX12_about_1 (by omega) (by decide) ?_
  refine JO_iconst (pc := 151) (a := (-1)) dX12_about_151 (by decide) ?_
  exact JO_reti (pc := 152) rfl dX12_about_152
