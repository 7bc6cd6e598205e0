def XS0 : List Shp := [.inr (11, [4, 5, 34, 40, 42, 46, 64, 114, 117, 124, 125, 126, 2, 0, 0]), .inl (1, 1600), .inr (5, [6, 8, 9, 2, 0, 0, 0]), .inr (9, [2, 0, 0, 0, 0, 0]), .inl (1, 0), .inl (0, 6), .inl (0, 6), .inr (10, [11, 12, 13, 14, 15, 16, 17, 18, 19, 24, 29, 0, 0, 0, 0]), .inl (0, 6), .inl (0, 6), .inl (0, 6), .inl (0, 6), .inl (0, 6), .inl (0, 6), .inl (0, 6), .inl (0, 36), .inr (2, [20, 21, 22, 23, 0, 0, 0, 0]), .inl (0, 270), .inl (0, 270), .inl (0, 32), .inl (0, 30), .inr (2, [25, 26, 27, 28, 0, 0, 0, 0]), .inl (0, 270), .inl (0, 270), .inl (0, 32), .inl (0, 30), .inr (2, [30, 31, 32, 33, 0, 0, 0, 0]), .inl (0, 270), .inl (0, 270), .inl (0, 32), .inl (0, 30), .inr (7, [35, 36, 37, 38, 39, 0, 0, 0]), .inl (0, 6), .inl (0, 6), .inl (0, 6), .inl (0, 6), .inl (0, 36), .inr (3, [41, 0, 0]), .inl (0, 2583), .inr (0, [43, 44, 45]), .inl (0, 7), .inl (0, 6), .inl (0, 6), .inr (1, [47, 51, 57, 63, 0, 0]), .inr (0, [48, 49, 50]), .inl (0, 7), .inl (0, 6), .inl (0, 6), .inr (7, [52, 53, 54, 55, 56, 0, 0, 0]), .inl (0, 6), .inl (0, 6), .inl (0, 6), .inl (0, 6), .inl (0, 36), .inr (7, [58, 59, 60, 61, 62, 0, 0, 0]), .inl (0, 6), .inl (0, 6), .inl (0, 6), .inl (0, 6), .inl (0, 36), .inl (0, 60), .inr (4, [65, 69, 70, 0, 0, 71, 0]), .inr (0, [66, 67, 68]), .inl (0, 7), .inl (0, 6), .inl (0, 6), .inl (4, 7), .inl (0, 6), .inl (0, 6), .inr (7, [73, 74, 75, 76, 77, 0, 0, 0]), .inl (0, 6), .inl (0, 6), .inl (0, 6), .inl (0, 6), .inl (0, 36), .inr (7, [79, 80, 81, 82, 83, 0, 0, 0]), .inl (0, 6), .inl (0, 6), .inl (0, 6), .inl (0, 6), .inl (0, 36), .inr (7, [85, 86, 87, 88, 89, 0, 0, 0]), .inl (0, 6), .inl (0, 6), .inl (0, 6), .inl (0, 6), .inl (0, 36), .inr (7, [91, 92, 93, 94, 95, 0, 0, 0]), .inl (0, 6), .inl (0, 6), .inl (0, 6), .inl (0, 6), .inl (0, 36), .inr (7, [97, 98, 99, 100, 101, 0, 0, 0]), .inl (0, 6), .inl (0, 6), .inl (0, 6), .inl (0, 6), .inl (0, 36), .inr (7, [103, 104, 105, 106, 107, 0, 0, 0]), .inl (0, 6), .inl (0, 6), .inl (0, 6), .inl (0, 6), .inl (0, 36), .inr (7, [109, 110, 111, 112, 113, 0, 0, 0]), .inl (0, 6), .inl (0, 6), .inl (0, 6), .inl (0, 6), .inl (0, 36), .inr (6, [115, 0, 116, 0, 0, 0]), .inl (0, 6), .inl (0, 6), .inr (8, [118, 119, 120, 121, 122, 123, 0, 0, 0, 0]), .inl (0, 30), .inl (0, 30), .inl (0, 30), .inl (0, 30), .inl (0, 30), .inl (0, 144), .inl (0, 189), .inl (2, 3), .inl (0, 6), .inr (10, [128, 129, 130, 131, 132, 133, 134, 135, 136, 141, 146, 0, 0, 0, 0]), .inl (0, 6), .inl (0, 6), .inl (0, 6), .inl (0, 6), .inl (0, 6), .inl (0, 6), .inl (0, 6), .inl (0, 36), .inr (2, [137, 138, 139, 140, 0, 0, 0, 0]), .inl (0, 270), .inl (0, 270), .inl (0, 32), .inl (0, 30), .inr (2, [142, 143, 144, 145, 0, 0, 0, 0]), .inl (0, 270), .inl (0, 270), .inl (0, 32), .inl (0, 30), .inr (2, [147, 148, 149, 150, 0, 0, 0, 0]), .inl (0, 270), .inl (0, 270), .inl (0, 32), .inl (0, 30)]
def XS1 : List Shp := [.inr (12, [1004, 0, 0, 0, 0, 0, 0, 0, 0, 1, 1005, 1006, 1007, 1008, 1009, 1010, 1011, 1012, 1013, 0, 0, 0, 0, 0, 0, 1014, 1015, 1016, 1017, 1018, 1019, 1020, 1021, 1022, 1023, 1024, 1025, 1026, 1027, 1028, 1029, 1030, 0, 0, 0, 0, 0, 0, 0, 0, 0, 0, 0, 0, 0, 1031, 1032, 1033, 1034, 1035, 1036, 1037, 0, 0, 1038, 1039, 1040, 1041, 1042, 0, 0, 1043, 1044, 1045, 0, 0, 1046, 1047, 0, 0, 0, 1048, 1049, 1050, 1051, 1052, 0, 0, 1053, 1054]), .inl (0, 1600), .inl (3, 6), .inl (0, 960), .inl (0, 960), .inl (0, 3), .inl (0, 960), .inl (0, 960), .inl (0, 3), .inl (0, 160), .inl (0, 64), .inl (0, 7), .inl (0, 6), .inl (0, 6), .inl (0, 6), .inl (0, 6), .inl (0, 6), .inl (0, 6), .inl (0, 6), .inl (0, 36), .inl (0, 6), .inl (0, 6), .inl (0, 6), .inl (0, 6), .inl (0, 6), .inl (0, 6), .inl (0, 6), .inl (0, 36), .inl (0, 64), .inl (0, 6), .inl (0, 6), .inl (0, 6), .inl (0, 6), .inl (0, 36), .inl (0, 6), .inl (2, 6), .inl (2, 6), .inl (2, 6), .inl (0, 6), .inl (0, 2560), .inl (0, 6), .inl (0, 6), .inl (0, 8), .inl (0, 8), .inl (0, 8), .inl (0, 30), .inl (0, 30), .inl (0, 30), .inl (0, 30), .inl (0, 30), .inl (2, 3), .inl (0, 192)]
theorem XS_SH : XS0 ++ XS1 = SH := by decide +kernel
section
variable {G : JG} {y : MI} {d mc ms : Nat} {nc ns pc : Nat} {L : List (Option Value)} {S : List Value} {σ : Mem} {K : JK} {sh sh' : List Shp}
theorem J_eqs (h : sh = sh') (k : J G y d mc ms sh' nc ns pc L S σ K) : J G y d mc ms sh nc ns pc L S σ K := h ▸ k
end
set_option maxHeartbeats 4000000 in
set_option maxRecDepth 100000 in
theorem law_first (G : JG) {Inv : Mem → Prop} (hA : AllSteps Inv) (h0 : Inv mem0) (hL : G.2.2.2.2.2.2.1 ≤ 3072) : J G mL_law (120 + 1) 600000 7302250 [] 0 0 0 [some (.ref G.2.2.2.2.2.1), none, none, none] [] z0 (fun r _ _ => r = some (.int 1)) := by
  refine J_eqs (sh' := [] ++ []) rfl ?_
  refine J_new (pc := 0) (o := 0) (pre := []) (o0 := 0) (tl := []) (tl' := [.inr (11, [2, 2, 2, 2, 2, 2, 2, 2, 2, 2, 2, 2, 2, 0, 0])]) nl_L_7 rfl rfl (j := 0) rfl rfl rfl ⟨rfl, rfl⟩ (by decide) (by decide) dL_law_0 rfl ?_
  refine J_dup (pc := 3) dL_law_3 rfl ?_
  refine J_callI (pc := 4) (o := 0) (K' := fun r sh σ' => r = none ∧ sh = [] ++ XS0 ∧ σ' = (sI (sI (sI (sI (sI (sI (sI (sI (sI (sI (sI (sI (sI (sI (sI z0 3 0 (nI 4)) 7 11 10) 2 3 (nI 7)) 2 6 (-1)) 66 0 (nI 69)) 66 1 (nI 75)) 66 2 (nI 81)) 66 3 (nI 87)) 66 4 (nI 93)) 66 5 (nI 99)) 66 6 (nI 105)) 124 11 10) 0 12 (nI 124)) 0 13 0) 0 14 0)) [] lk_L_9 rfl (ct_0 G 116 [] rfl z0 (fun i _ _ => ⟨rfl, rfl⟩)) (fun r sh' σ' hk => by rw [hk.2.1]; rfl) (by decide) (by decide) rfl rfl (Nat.le_of_ble_eq_true rfl) dL_law_4 (fun r sh' σ' hk => ?_)
  obtain ⟨rfl, hsh, hσ⟩ := hk
  rw [hσ]
  refine J_eqs (sh' := XS0 ++ []) (by rw [hsh, List.append_nil]; rfl) ?_
  refine J_astore_n (pc := 7) (L' := [some (.ref G.2.2.2.2.2.1), some (.ref (G.1 + off 0)), none, none]) dL_law_7 rfl rfl rfl ?_
  refine J_new (pc := 8) (o := 1000) (pre := XS0) (o0 := 148) (tl := []) (tl' := [.inr (12, [2, 0, 0, 0, 0, 0, 0, 0, 0, 1, 2, 2, 2, 2, 2, 2, 2, 2, 2, 0, 0, 0, 0, 0, 0, 2, 2, 2, 2, 2, 2, 2, 2, 2, 2, 2, 2, 2, 2, 2, 2, 2, 0, 0, 0, 0, 0, 0, 0, 0, 0, 0, 0, 0, 0, 2, 2, 2, 2, 2, 2, 2, 0, 0, 2, 2, 2, 2, 2, 0, 0, 2, 2, 2, 0, 0, 2, 2, 0, 0, 0, 2, 2, 2, 2, 2, 0, 0, 2, 2])]) nl_L_10 rfl (by decide +kernel) (j := 0) rfl rfl rfl ⟨rfl, rfl⟩ (by decide) (by decide) dL_law_8 rfl ?_
  refine J_dup (pc := 11) dL_law_11 rfl ?_
  refine J_callI (pc := 12) (o := 1000) (K' := fun r sh σ' => r = none ∧ sh = XS0 ++ XS1 ∧ σ' = (sI (sI (sI (sI (sI (sI (sI (sI (sI (sI (sI (sI (sI (sI (sI (sI (sI z0 3 0 (nI 4)) 7 11 10) 2 3 (nI 7)) 2 6 (-1)) 66 0 (nI 69)) 66 1 (nI 75)) 66 2 (nI 81)) 66 3 (nI 87)) 66 4 (nI 93)) 66 5 (nI 99)) 66 6 (nI 105)) 124 11 10) 0 12 (nI 124)) 0 13 0) 0 14 0) 1000 3 (-1)) 1000 46 10)) [] lk_L_12 rfl (ct_1000 G 119 XS0 (by decide +kernel) _ (fun i g1 g2 => ⟨by funext k; have h9 : 1000 < i := g1; simp [sI, z0, show i ≠ 0 by omega, show i ≠ 2 by omega, show i ≠ 3 by omega, show i ≠ 7 by omega, show i ≠ 66 by omega, show i ≠ 124 by omega], rfl⟩)) (fun r sh' σ' hk => by rw [hk.2.1]; rfl) (by decide) (by decide) rfl rfl (Nat.le_of_ble_eq_true rfl) dL_law_12 (fun r sh' σ' hk => ?_)
  obtain ⟨rfl, hsh, hσ⟩ := hk
  rw [hσ, hsh]
  refine J_eqs XS_SH ?_
  refine J_astore_n (pc := 15) (L' := [some (.ref G.2.2.2.2.2.1), some (.ref (G.1 + off 0)), some (.ref (G.1 + off 1000)), none]) dL_law_15 rfl rfl rfl ?_
  refine J_iconst (pc := 16) (v := 0) dL_law_16 (by decide) ?_
  refine J_istore_n (pc := 17) (L' := [some (.ref G.2.2.2.2.2.1), some (.ref (G.1 + off 0)), some (.ref (G.1 + off 1000)), some (.int 0)]) dL_law_17 rfl rfl rfl ?_
  exact law_loop G hA hL 600 0 0 mem0 (by omega) (by omega) rfl h0
theorem lwz_ret {p : Program} {l : Launch} {e : Env} {s : State} {m : MethodId} {below : List Frame} {meth : Method} {c : Code} {b : Nat} {v : Int32} {ty : FieldType} (hx : p.tables.exec = Jvm.exec) (hb : c.code = code) (hr : meth.sig.returnType = some ty) (hn : narrow ty (.int v) = .int 1) (hlocks : meth.locks = false) {pc : Nat} {H : Heap} {ls : Array Slot} (hdg : decode code pc = .ok (.ireturn, 1)) : W p l e room_1 s m #[Value.ref b] below meth c H [] 600000 7302250 (lw_Z below #[Value.ref b] s) (F0 m pc ls [.int v]) := by
  intro T hT X
  obtain ⟨fs, hret, hrun, hended, hW, hframe⟩ := X.leave (v := some (.int 1)) (hlocks := hlocks) (fun h => by rw [hr] at h; cases h)
  have hmeth' : T.vm.method? m = some meth := X.method'
  refine ⟨T.setFrames fs, ?_, .returned (some (.int 1)), hrun, hended, rfl, ⟨_, rfl⟩, hW, hframe⟩
  jvm_step X.here [X.here.top, hx, hb, hdg, hmeth', hr, hn]
  (try refine ⟨rfl, ?_⟩); (try refine ⟨rfl, ?_⟩)
  first | (intro acts; rw [hret _ acts rfl rfl rfl]) | rw [hret _ _ rfl rfl rfl]
  exact Steps.refl _
set_option maxHeartbeats 4000000 in
set_option maxRecDepth 100000 in
theorem whole_start {p : Program} {e : Env} {s : State} {m : MethodId} {below : List Frame} {meth : Method} {c : Code} (l : Launch) {b L : Nat} {xs : Nat → Int32} (hL : L ≤ 3072) (C0 : lw_At p s m meth c b L xs) : W p l e room_1 s m #[Value.ref b] below meth c s.heap [] 0 0 (lw_Z below #[Value.ref b] s) (entryFrame m ([Value.ref b] : List Value).toArray 4) := by
  obtain ⟨hx, hb, hr, hml, hown, hts, hX, hbl, hlocks, hgv⟩ := id C0
  obtain ⟨G, hG1, hG2, hE⟩ := law_env hts hX hbl hgv
  obtain ⟨Inv, hA, h0⟩ := pure_all
  have hJ := law_first G hA h0 (by rw [hG2]; exact hL)
  have hl := lv_entry ([.ref b]) (n := 4) (Nat.le_of_ble_eq_true rfl)
  rw [lg_entry_eq]
  generalize (lg_sl ([.ref b]) ++ List.replicate (4 - (lg_sl ([.ref b])).length) Slot.unset).toArray = ls at hl ⊢
  have hl2 : j_L ls 4 [some (.ref G.2.2.2.2.2.1), none, none, none] := by
    rw [hG2]
    exact j_L.entry (k := 3) hl
  refine hJ p l e room_1 s m _ below meth c s.heap [] ls _ ⟨hx, hb, hml, hown, fun w hw => hts w (tbl_of hw), hE, (fun h => absurd h (by decide)), ⟨by decide, by decide, by decide, by decide⟩, by rw [hG1]; exact Nat.le_refl _, ?_⟩ (fun k q h => by simp [j_W] at h) (by rw [hG1]; rfl) va_S.rf hl2 (by decide) (by decide)
  intro H' locs' ls' pc' S' r sh' σ' nc' ns' hK hH hS hc hs hR
  refine va_forget (fun q hq => by rw [← hG1]; exact hS.2.2 q hq) ?_
  refine W.widen (k := 600000) (n := 7302250) hc hs ?_
  rcases hR with ⟨ty, v, v', e1, e2, rfl, e4, rfl⟩ | ⟨e1, -⟩ | ⟨n, a, e1, -⟩
  · cases hK
    exact lwz_ret hx hb (hr.trans e1) e4 hlocks e2
  · cases e1
  · cases e1
