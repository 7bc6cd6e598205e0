
theorem lw_gt {i N : Nat} (h : N < i + 6) (hi : i < 2 ^ 30) (hN : N < 2 ^ 30) : nI N - 6 < nI i := by
  rw [Int32.lt_iff_toInt_lt, nI_toInt (by omega)]
  have := pk_sub_toInt (a := N) (b := 6) hN (by decide)
  rw [show (6 : Int32) = nI 6 from rfl, this]
  omega
section
variable {G : JG} {y : MI} {d mc ms : Nat} {nc ns pc : Nat} {L : List (Option Value)} {S : List Value} {σ : Mem} {K : JK} {sh : List Shp}
theorem J_retz {a : Int32} (hr : y.2.2.2 = some .boolean) (hd : decode y.2.1 pc = .ok (.ireturn, 1)) (ha : a &&& 1 = a) (hK : K (some (.int a)) sh σ) : J G y d mc ms sh nc ns pc L [.int a] σ K := by
  intro p l e R s m args below meth c H locs ls Q C hH hz hS hl h1 h2
  exact C.2.2.2.2.2.2.2.2.2 H locs ls pc [.int a] _ sh σ nc ns hK hH hS h1 h2 (Or.inl ⟨.boolean, a, a, hr, hd, rfl, by rw [← ha]; show Value.int ((a &&& 1) &&& 1) = _; rw [ha, ha], rfl⟩)
end
set_option maxHeartbeats 4000000 in
set_option maxRecDepth 100000 in
theorem law_c0 (G : JG) {Inv : Mem → Prop} (hA : AllSteps Inv) (x3 : Int32) (h1 : vp_in (x3 + 1) G.2.2.2.2.2.2.1) (h2 : vp_in (x3 + 2) G.2.2.2.2.2.2.1) (h3 : vp_in (x3 + 3) G.2.2.2.2.2.2.1) (h4 : vp_in (x3 + 4) G.2.2.2.2.2.2.1) (h5 : vp_in (x3 + 5) G.2.2.2.2.2.2.1) (hk0 : ∀ σ, Inv σ → J G mL_law (120 + 1) 600000 7302250 SH 200 18454 1266 [some (.ref G.2.2.2.2.2.1), some (.ref (G.1 + off 0)), some (.ref (G.1 + off 1000)), some (.int x3)] [] σ (fun r _ _ => r = some (.int 1))) (σ : Mem) (hI : Inv σ) : J G mL_law (120 + 1) 600000 7302250 SH 200 18454 192 [some (.ref G.2.2.2.2.2.1), some (.ref (G.1 + off 0)), some (.ref (G.1 + off 1000)), some (.int x3)] [] σ (fun r _ _ => r = some (.int 1)) := by
  obtain ⟨fkC, hfC⟩ := shX11
  obtain ⟨fkM, hfM⟩ := shX12
  refine J_aload_n (pc := 192) dL_law_192 rfl ?_
  refine J_aload_n (pc := 193) dL_law_193 rfl ?_
  refine J_iload_n (pc := 194) dL_law_194 rfl ?_
  refine J_iconst (pc := 195) (v := 1) dL_law_195 (by decide) ?_
  refine J_iadd (pc := 196) dL_law_196 ?_
  refine J_sld (pc := 197) h1 dL_law_197 ?_
  refine J_aload_n (pc := 198) dL_law_198 rfl ?_
  refine J_iload_n (pc := 199) dL_law_199 rfl ?_
  refine J_iconst (pc := 200) (v := 2) dL_law_200 (by decide) ?_
  refine J_iadd (pc := 201) dL_law_201 ?_
  refine J_sld (pc := 202) h2 dL_law_202 ?_
  refine J_aload_n (pc := 203) dL_law_203 rfl ?_
  refine J_iload_n (pc := 204) dL_law_204 rfl ?_
  refine J_iconst (pc := 205) (v := 3) dL_law_205 (by decide) ?_
  refine J_iadd (pc := 206) dL_law_206 ?_
  refine J_sld (pc := 207) h3 dL_law_207 ?_
  refine J_aload_n (pc := 208) dL_law_208 rfl ?_
  refine J_iload_n (pc := 209) dL_law_209 rfl ?_
  refine J_iconst (pc := 210) (v := 4) dL_law_210 (by decide) ?_
  refine J_iadd (pc := 211) dL_law_211 ?_
  refine J_sld (pc := 212) h4 dL_law_212 ?_
  refine J_aload_n (pc := 213) dL_law_213 rfl ?_
  refine J_iload_n (pc := 214) dL_law_214 rfl ?_
  refine J_iconst (pc := 215) (v := 5) dL_law_215 (by decide) ?_
  refine J_iadd (pc := 216) dL_law_216 ?_
  refine J_sld (pc := 217) h5 dL_law_217 ?_
  obtain ⟨r1, σ1, σ2, e1, e2, hI2⟩ := st_0 hA (G.2.2.2.2.2.2.2 (x3 + 1).toNatClampNeg) (G.2.2.2.2.2.2.2 (x3 + 2).toNatClampNeg) (G.2.2.2.2.2.2.2 (x3 + 3).toNatClampNeg) (G.2.2.2.2.2.2.2 (x3 + 4).toNatClampNeg) (G.2.2.2.2.2.2.2 (x3 + 5).toNatClampNeg) σ hI
  refine J_callV (pc := 218) (o := 0) (K' := fun q sh σ' => sh = SH ∧ (q, σ') = rI (r1, σ1)) [.int (G.2.2.2.2.2.2.2 (x3 + 1).toNatClampNeg), .int (G.2.2.2.2.2.2.2 (x3 + 2).toNatClampNeg), .int (G.2.2.2.2.2.2.2 (x3 + 3).toNatClampNeg), .int (G.2.2.2.2.2.2.2 (x3 + 4).toNatClampNeg), .int (G.2.2.2.2.2.2.2 (x3 + 5).toNatClampNeg)] lk_L_13 rfl (ci := 11) rfl hfC (w_X11_feed G 119 (G.2.2.2.2.2.2.2 (x3 + 1).toNatClampNeg) (G.2.2.2.2.2.2.2 (x3 + 2).toNatClampNeg) (G.2.2.2.2.2.2.2 (x3 + 3).toNatClampNeg) (G.2.2.2.2.2.2.2 (x3 + 4).toNatClampNeg) (G.2.2.2.2.2.2.2 (x3 + 5).toNatClampNeg) σ (r1, σ1) e1) (fun _ _ _ hk => by rw [hk.1]; rfl) (by decide) (by decide) rfl rfl (Nat.le_of_ble_eq_true rfl) dL_law_218 (fun q sh' σ' hk => ?_)
  obtain ⟨rfl, hk⟩ := hk
  cases hk
  show J G mL_law (120 + 1) 600000 7302250 SH 200 18454 221 [some (.ref G.2.2.2.2.2.1), some (.ref (G.1 + off 0)), some (.ref (G.1 + off 1000)), some (.int x3)] [.int r1] σ1 (fun r _ _ => r = some (.int 1))
  refine J_aload_n (pc := 221) dL_law_221 rfl ?_
  refine J_aload_n (pc := 222) dL_law_222 rfl ?_
  refine J_iload_n (pc := 223) dL_law_223 rfl ?_
  refine J_iconst (pc := 224) (v := 1) dL_law_224 (by decide) ?_
  refine J_iadd (pc := 225) dL_law_225 ?_
  refine J_sld (pc := 226) h1 dL_law_226 ?_
  refine J_aload_n (pc := 227) dL_law_227 rfl ?_
  refine J_iload_n (pc := 228) dL_law_228 rfl ?_
  refine J_iconst (pc := 229) (v := 2) dL_law_229 (by decide) ?_
  refine J_iadd (pc := 230) dL_law_230 ?_
  refine J_sld (pc := 231) h2 dL_law_231 ?_
  refine J_aload_n (pc := 232) dL_law_232 rfl ?_
  refine J_iload_n (pc := 233) dL_law_233 rfl ?_
  refine J_iconst (pc := 234) (v := 3) dL_law_234 (by decide) ?_
  refine J_iadd (pc := 235) dL_law_235 ?_
  refine J_sld (pc := 236) h3 dL_law_236 ?_
  refine J_aload_n (pc := 237) dL_law_237 rfl ?_
  refine J_iload_n (pc := 238) dL_law_238 rfl ?_
  refine J_iconst (pc := 239) (v := 4) dL_law_239 (by decide) ?_
  refine J_iadd (pc := 240) dL_law_240 ?_
  refine J_sld (pc := 241) h4 dL_law_241 ?_
  refine J_aload_n (pc := 242) dL_law_242 rfl ?_
  refine J_iload_n (pc := 243) dL_law_243 rfl ?_
  refine J_iconst (pc := 244) (v := 5) dL_law_244 (by decide) ?_
  refine J_iadd (pc := 245) dL_law_245 ?_
  refine J_sld (pc := 246) h5 dL_law_246 ?_
  refine J_callV (pc := 247) (o := 1000) (K' := fun q sh σ' => sh = SH ∧ (q, σ') = rI (r1, σ2)) [.int (G.2.2.2.2.2.2.2 (x3 + 1).toNatClampNeg), .int (G.2.2.2.2.2.2.2 (x3 + 2).toNatClampNeg), .int (G.2.2.2.2.2.2.2 (x3 + 3).toNatClampNeg), .int (G.2.2.2.2.2.2.2 (x3 + 4).toNatClampNeg), .int (G.2.2.2.2.2.2.2 (x3 + 5).toNatClampNeg)] lk_L_17 rfl (ci := 12) rfl hfM (w_X12_feed G 119 (G.2.2.2.2.2.2.2 (x3 + 1).toNatClampNeg) (G.2.2.2.2.2.2.2 (x3 + 2).toNatClampNeg) (G.2.2.2.2.2.2.2 (x3 + 3).toNatClampNeg) (G.2.2.2.2.2.2.2 (x3 + 4).toNatClampNeg) (G.2.2.2.2.2.2.2 (x3 + 5).toNatClampNeg) σ1 (r1, σ2) e2) (fun _ _ _ hk => by rw [hk.1]; rfl) (by decide) (by decide) rfl rfl (Nat.le_of_ble_eq_true rfl) dL_law_247 (fun q sh' σ' hk => ?_)
  obtain ⟨rfl, hk⟩ := hk
  cases hk
  show J G mL_law (120 + 1) 600000 7302250 SH 200 18454 250 [some (.ref G.2.2.2.2.2.1), some (.ref (G.1 + off 0)), some (.ref (G.1 + off 1000)), some (.int x3)] [.int r1, .int r1] σ2 (fun r _ _ => r = some (.int 1))
  exact J_icmp_eq (pc := 250) (tgt := 1266) dL_law_250 (by decide) (fun _ => hk0 σ2 hI2) (fun z => absurd rfl z)
set_option maxHeartbeats 4000000 in
set_option maxRecDepth 100000 in
theorem law_c1 (G : JG) {Inv : Mem → Prop} (hA : AllSteps Inv) (x3 : Int32) (h1 : vp_in (x3 + 1) G.2.2.2.2.2.2.1) (h2 : vp_in (x3 + 2) G.2.2.2.2.2.2.1) (h3 : vp_in (x3 + 3) G.2.2.2.2.2.2.1) (h4 : vp_in (x3 + 4) G.2.2.2.2.2.2.1) (h5 : vp_in (x3 + 5) G.2.2.2.2.2.2.1) (hk0 : ∀ σ, Inv σ → J G mL_law (120 + 1) 600000 7302250 SH 200 18454 1266 [some (.ref G.2.2.2.2.2.1), some (.ref (G.1 + off 0)), some (.ref (G.1 + off 1000)), some (.int x3)] [] σ (fun r _ _ => r = some (.int 1))) (σ : Mem) (hI : Inv σ) : J G mL_law (120 + 1) 600000 7302250 SH 200 18454 255 [some (.ref G.2.2.2.2.2.1), some (.ref (G.1 + off 0)), some (.ref (G.1 + off 1000)), some (.int x3)] [] σ (fun r _ _ => r = some (.int 1)) := by
  obtain ⟨fkC, hfC⟩ := shX11
  obtain ⟨fkM, hfM⟩ := shX12
  refine J_aload_n (pc := 255) dL_law_255 rfl ?_
  refine J_aload_n (pc := 256) dL_law_256 rfl ?_
  refine J_iload_n (pc := 257) dL_law_257 rfl ?_
  refine J_iconst (pc := 258) (v := 1) dL_law_258 (by decide) ?_
  refine J_iadd (pc := 259) dL_law_259 ?_
  refine J_sld (pc := 260) h1 dL_law_260 ?_
  obtain ⟨r1, σ1, σ2, e1, e2, hI2⟩ := st_1 hA (G.2.2.2.2.2.2.2 (x3 + 1).toNatClampNeg) σ hI
  refine J_callV (pc := 261) (o := 0) (K' := fun q sh σ' => sh = SH ∧ (q, σ') = rI (r1, σ1)) [.int (G.2.2.2.2.2.2.2 (x3 + 1).toNatClampNeg)] lk_L_18 rfl (ci := 11) rfl hfC (w_X11_end G 120 (G.2.2.2.2.2.2.2 (x3 + 1).toNatClampNeg) σ (r1, σ1) e1) (fun _ _ _ hk => by rw [hk.1]; rfl) (by decide) (by decide) rfl rfl (Nat.le_of_ble_eq_true rfl) dL_law_261 (fun q sh' σ' hk => ?_)
  obtain ⟨rfl, hk⟩ := hk
  cases hk
  show J G mL_law (120 + 1) 600000 7302250 SH 200 18454 264 [some (.ref G.2.2.2.2.2.1), some (.ref (G.1 + off 0)), some (.ref (G.1 + off 1000)), some (.int x3)] [.int r1] σ1 (fun r _ _ => r = some (.int 1))
  refine J_aload_n (pc := 264) dL_law_264 rfl ?_
  refine J_aload_n (pc := 265) dL_law_265 rfl ?_
  refine J_iload_n (pc := 266) dL_law_266 rfl ?_
  refine J_iconst (pc := 267) (v := 1) dL_law_267 (by decide) ?_
  refine J_iadd (pc := 268) dL_law_268 ?_
  refine J_sld (pc := 269) h1 dL_law_269 ?_
  refine J_callV (pc := 270) (o := 1000) (K' := fun q sh σ' => sh = SH ∧ (q, σ') = rI (r1, σ2)) [.int (G.2.2.2.2.2.2.2 (x3 + 1).toNatClampNeg)] lk_L_22 rfl (ci := 12) rfl hfM (w_X12_end G 120 (G.2.2.2.2.2.2.2 (x3 + 1).toNatClampNeg) σ1 (r1, σ2) e2) (fun _ _ _ hk => by rw [hk.1]; rfl) (by decide) (by decide) rfl rfl (Nat.le_of_ble_eq_true rfl) dL_law_270 (fun q sh' σ' hk => ?_)
  obtain ⟨rfl, hk⟩ := hk
  cases hk
  show J G mL_law (120 + 1) 600000 7302250 SH 200 18454 273 [some (.ref G.2.2.2.2.2.1), some (.ref (G.1 + off 0)), some (.ref (G.1 + off 1000)), some (.int x3)] [.int r1, .int r1] σ2 (fun r _ _ => r = some (.int 1))
  exact J_icmp_eq (pc := 273) (tgt := 1266) dL_law_273 (by decide) (fun _ => hk0 σ2 hI2) (fun z => absurd rfl z)
set_option maxHeartbeats 4000000 in
set_option maxRecDepth 100000 in
theorem law_c2 (G : JG) {Inv : Mem → Prop} (hA : AllSteps Inv) (x3 : Int32) (h1 : vp_in (x3 + 1) G.2.2.2.2.2.2.1) (h2 : vp_in (x3 + 2) G.2.2.2.2.2.2.1) (h3 : vp_in (x3 + 3) G.2.2.2.2.2.2.1) (h4 : vp_in (x3 + 4) G.2.2.2.2.2.2.1) (h5 : vp_in (x3 + 5) G.2.2.2.2.2.2.1) (hk0 : ∀ σ, Inv σ → J G mL_law (120 + 1) 600000 7302250 SH 200 18454 1266 [some (.ref G.2.2.2.2.2.1), some (.ref (G.1 + off 0)), some (.ref (G.1 + off 1000)), some (.int x3)] [] σ (fun r _ _ => r = some (.int 1))) (σ : Mem) (hI : Inv σ) : J G mL_law (120 + 1) 600000 7302250 SH 200 18454 278 [some (.ref G.2.2.2.2.2.1), some (.ref (G.1 + off 0)), some (.ref (G.1 + off 1000)), some (.int x3)] [] σ (fun r _ _ => r = some (.int 1)) := by
  obtain ⟨fkC, hfC⟩ := shX11
  obtain ⟨fkM, hfM⟩ := shX12
  refine J_aload_n (pc := 278) dL_law_278 rfl ?_
  obtain ⟨r1, σ1, σ2, e1, e2, hI2⟩ := st_2 hA  σ hI
  refine J_callV (pc := 279) (o := 0) (K' := fun q sh σ' => sh = SH ∧ (q, σ') = rI (r1, σ1)) [] lk_L_23 rfl (ci := 11) rfl hfC (w_X11_town G 10  σ (r1, σ1) e1) (fun _ _ _ hk => by rw [hk.1]; rfl) (by decide) (by decide) rfl rfl (Nat.le_of_ble_eq_true rfl) dL_law_279 (fun q sh' σ' hk => ?_)
  obtain ⟨rfl, hk⟩ := hk
  cases hk
  show J G mL_law (120 + 1) 600000 7302250 SH 200 18454 282 [some (.ref G.2.2.2.2.2.1), some (.ref (G.1 + off 0)), some (.ref (G.1 + off 1000)), some (.int x3)] [.int r1] σ1 (fun r _ _ => r = some (.int 1))
  refine J_aload_n (pc := 282) dL_law_282 rfl ?_
  refine J_callV (pc := 283) (o := 1000) (K' := fun q sh σ' => sh = SH ∧ (q, σ') = rI (r1, σ2)) [] lk_L_27 rfl (ci := 12) rfl hfM (w_X12_town G 112  σ1 (r1, σ2) e2) (fun _ _ _ hk => by rw [hk.1]; rfl) (by decide) (by decide) rfl rfl (Nat.le_of_ble_eq_true rfl) dL_law_283 (fun q sh' σ' hk => ?_)
  obtain ⟨rfl, hk⟩ := hk
  cases hk
  show J G mL_law (120 + 1) 600000 7302250 SH 200 18454 286 [some (.ref G.2.2.2.2.2.1), some (.ref (G.1 + off 0)), some (.ref (G.1 + off 1000)), some (.int x3)] [.int r1, .int r1] σ2 (fun r _ _ => r = some (.int 1))
  exact J_icmp_eq (pc := 286) (tgt := 1266) dL_law_286 (by decide) (fun _ => hk0 σ2 hI2) (fun z => absurd rfl z)
set_option maxHeartbeats 4000000 in
set_option maxRecDepth 100000 in
theorem law_c3 (G : JG) {Inv : Mem → Prop} (hA : AllSteps Inv) (x3 : Int32) (h1 : vp_in (x3 + 1) G.2.2.2.2.2.2.1) (h2 : vp_in (x3 + 2) G.2.2.2.2.2.2.1) (h3 : vp_in (x3 + 3) G.2.2.2.2.2.2.1) (h4 : vp_in (x3 + 4) G.2.2.2.2.2.2.1) (h5 : vp_in (x3 + 5) G.2.2.2.2.2.2.1) (hk0 : ∀ σ, Inv σ → J G mL_law (120 + 1) 600000 7302250 SH 200 18454 1266 [some (.ref G.2.2.2.2.2.1), some (.ref (G.1 + off 0)), some (.ref (G.1 + off 1000)), some (.int x3)] [] σ (fun r _ _ => r = some (.int 1))) (σ : Mem) (hI : Inv σ) : J G mL_law (120 + 1) 600000 7302250 SH 200 18454 291 [some (.ref G.2.2.2.2.2.1), some (.ref (G.1 + off 0)), some (.ref (G.1 + off 1000)), some (.int x3)] [] σ (fun r _ _ => r = some (.int 1)) := by
  obtain ⟨fkC, hfC⟩ := shX11
  obtain ⟨fkM, hfM⟩ := shX12
  refine J_aload_n (pc := 291) dL_law_291 rfl ?_
  refine J_aload_n (pc := 292) dL_law_292 rfl ?_
  refine J_iload_n (pc := 293) dL_law_293 rfl ?_
  refine J_iconst (pc := 294) (v := 1) dL_law_294 (by decide) ?_
  refine J_iadd (pc := 295) dL_law_295 ?_
  refine J_sld (pc := 296) h1 dL_law_296 ?_
  obtain ⟨r1, σ1, σ2, e1, e2, hI2⟩ := st_3 hA (G.2.2.2.2.2.2.2 (x3 + 1).toNatClampNeg) σ hI
  refine J_callV (pc := 297) (o := 0) (K' := fun q sh σ' => sh = SH ∧ (q, σ') = rI (r1, σ1)) [.int (G.2.2.2.2.2.2.2 (x3 + 1).toNatClampNeg)] lk_L_28 rfl (ci := 11) rfl hfC (w_X11_fault G 120 (G.2.2.2.2.2.2.2 (x3 + 1).toNatClampNeg) σ (r1, σ1) e1) (fun _ _ _ hk => by rw [hk.1]; rfl) (by decide) (by decide) rfl rfl (Nat.le_of_ble_eq_true rfl) dL_law_297 (fun q sh' σ' hk => ?_)
  obtain ⟨rfl, hk⟩ := hk
  cases hk
  show J G mL_law (120 + 1) 600000 7302250 SH 200 18454 300 [some (.ref G.2.2.2.2.2.1), some (.ref (G.1 + off 0)), some (.ref (G.1 + off 1000)), some (.int x3)] [.int r1] σ1 (fun r _ _ => r = some (.int 1))
  refine J_aload_n (pc := 300) dL_law_300 rfl ?_
  refine J_aload_n (pc := 301) dL_law_301 rfl ?_
  refine J_iload_n (pc := 302) dL_law_302 rfl ?_
  refine J_iconst (pc := 303) (v := 1) dL_law_303 (by decide) ?_
  refine J_iadd (pc := 304) dL_law_304 ?_
  refine J_sld (pc := 305) h1 dL_law_305 ?_
  refine J_callV (pc := 306) (o := 1000) (K' := fun q sh σ' => sh = SH ∧ (q, σ') = rI (r1, σ2)) [.int (G.2.2.2.2.2.2.2 (x3 + 1).toNatClampNeg)] lk_L_31 rfl (ci := 12) rfl hfM (w_X12_fault G 120 (G.2.2.2.2.2.2.2 (x3 + 1).toNatClampNeg) σ1 (r1, σ2) e2) (fun _ _ _ hk => by rw [hk.1]; rfl) (by decide) (by decide) rfl rfl (Nat.le_of_ble_eq_true rfl) dL_law_306 (fun q sh' σ' hk => ?_)
  obtain ⟨rfl, hk⟩ := hk
  cases hk
  show J G mL_law (120 + 1) 600000 7302250 SH 200 18454 309 [some (.ref G.2.2.2.2.2.1), some (.ref (G.1 + off 0)), some (.ref (G.1 + off 1000)), some (.int x3)] [.int r1, .int r1] σ2 (fun r _ _ => r = some (.int 1))
  exact J_icmp_eq (pc := 309) (tgt := 1266) dL_law_309 (by decide) (fun _ => hk0 σ2 hI2) (fun z => absurd rfl z)
set_option maxHeartbeats 4000000 in
set_option maxRecDepth 100000 in
theorem law_c4 (G : JG) {Inv : Mem → Prop} (hA : AllSteps Inv) (x3 : Int32) (h1 : vp_in (x3 + 1) G.2.2.2.2.2.2.1) (h2 : vp_in (x3 + 2) G.2.2.2.2.2.2.1) (h3 : vp_in (x3 + 3) G.2.2.2.2.2.2.1) (h4 : vp_in (x3 + 4) G.2.2.2.2.2.2.1) (h5 : vp_in (x3 + 5) G.2.2.2.2.2.2.1) (hk0 : ∀ σ, Inv σ → J G mL_law (120 + 1) 600000 7302250 SH 200 18454 1266 [some (.ref G.2.2.2.2.2.1), some (.ref (G.1 + off 0)), some (.ref (G.1 + off 1000)), some (.int x3)] [] σ (fun r _ _ => r = some (.int 1))) (σ : Mem) (hI : Inv σ) : J G mL_law (120 + 1) 600000 7302250 SH 200 18454 314 [some (.ref G.2.2.2.2.2.1), some (.ref (G.1 + off 0)), some (.ref (G.1 + off 1000)), some (.int x3)] [] σ (fun r _ _ => r = some (.int 1)) := by
  obtain ⟨fkC, hfC⟩ := shX11
  obtain ⟨fkM, hfM⟩ := shX12
  refine J_aload_n (pc := 314) dL_law_314 rfl ?_
  refine J_aload_n (pc := 315) dL_law_315 rfl ?_
  refine J_iload_n (pc := 316) dL_law_316 rfl ?_
  refine J_iconst (pc := 317) (v := 1) dL_law_317 (by decide) ?_
  refine J_iadd (pc := 318) dL_law_318 ?_
  refine J_sld (pc := 319) h1 dL_law_319 ?_
  refine J_aload_n (pc := 320) dL_law_320 rfl ?_
  refine J_iload_n (pc := 321) dL_law_321 rfl ?_
  refine J_iconst (pc := 322) (v := 2) dL_law_322 (by decide) ?_
  refine J_iadd (pc := 323) dL_law_323 ?_
  refine J_sld (pc := 324) h2 dL_law_324 ?_
  obtain ⟨r1, σ1, σ2, e1, e2, hI2⟩ := st_4 hA (G.2.2.2.2.2.2.2 (x3 + 1).toNatClampNeg) (G.2.2.2.2.2.2.2 (x3 + 2).toNatClampNeg) σ hI
  refine J_callV (pc := 325) (o := 0) (K' := fun q sh σ' => sh = SH ∧ (q, σ') = rI (r1, σ1)) [.int (G.2.2.2.2.2.2.2 (x3 + 1).toNatClampNeg), .int (G.2.2.2.2.2.2.2 (x3 + 2).toNatClampNeg)] lk_L_32 rfl (ci := 11) rfl hfC (w_X11_person G 119 (G.2.2.2.2.2.2.2 (x3 + 1).toNatClampNeg) (G.2.2.2.2.2.2.2 (x3 + 2).toNatClampNeg) σ (r1, σ1) e1) (fun _ _ _ hk => by rw [hk.1]; rfl) (by decide) (by decide) rfl rfl (Nat.le_of_ble_eq_true rfl) dL_law_325 (fun q sh' σ' hk => ?_)
  obtain ⟨rfl, hk⟩ := hk
  cases hk
  show J G mL_law (120 + 1) 600000 7302250 SH 200 18454 328 [some (.ref G.2.2.2.2.2.1), some (.ref (G.1 + off 0)), some (.ref (G.1 + off 1000)), some (.int x3)] [.int r1] σ1 (fun r _ _ => r = some (.int 1))
  refine J_aload_n (pc := 328) dL_law_328 rfl ?_
  refine J_aload_n (pc := 329) dL_law_329 rfl ?_
  refine J_iload_n (pc := 330) dL_law_330 rfl ?_
  refine J_iconst (pc := 331) (v := 1) dL_law_331 (by decide) ?_
  refine J_iadd (pc := 332) dL_law_332 ?_
  refine J_sld (pc := 333) h1 dL_law_333 ?_
  refine J_aload_n (pc := 334) dL_law_334 rfl ?_
  refine J_iload_n (pc := 335) dL_law_335 rfl ?_
  refine J_iconst (pc := 336) (v := 2) dL_law_336 (by decide) ?_
  refine J_iadd (pc := 337) dL_law_337 ?_
  refine J_sld (pc := 338) h2 dL_law_338 ?_
  refine J_callV (pc := 339) (o := 1000) (K' := fun q sh σ' => sh = SH ∧ (q, σ') = rI (r1, σ2)) [.int (G.2.2.2.2.2.2.2 (x3 + 1).toNatClampNeg), .int (G.2.2.2.2.2.2.2 (x3 + 2).toNatClampNeg)] lk_L_36 rfl (ci := 12) rfl hfM (w_X12_person G 118 (G.2.2.2.2.2.2.2 (x3 + 1).toNatClampNeg) (G.2.2.2.2.2.2.2 (x3 + 2).toNatClampNeg) σ1 (r1, σ2) e2) (fun _ _ _ hk => by rw [hk.1]; rfl) (by decide) (by decide) rfl rfl (Nat.le_of_ble_eq_true rfl) dL_law_339 (fun q sh' σ' hk => ?_)
  obtain ⟨rfl, hk⟩ := hk
  cases hk
  show J G mL_law (120 + 1) 600000 7302250 SH 200 18454 342 [some (.ref G.2.2.2.2.2.1), some (.ref (G.1 + off 0)), some (.ref (G.1 + off 1000)), some (.int x3)] [.int r1, .int r1] σ2 (fun r _ _ => r = some (.int 1))
  exact J_icmp_eq (pc := 342) (tgt := 1266) dL_law_342 (by decide) (fun _ => hk0 σ2 hI2) (fun z => absurd rfl z)
set_option maxHeartbeats 4000000 in
set_option maxRecDepth 100000 in
theorem law_c5 (G : JG) {Inv : Mem → Prop} (hA : AllSteps Inv) (x3 : Int32) (h1 : vp_in (x3 + 1) G.2.2.2.2.2.2.1) (h2 : vp_in (x3 + 2) G.2.2.2.2.2.2.1) (h3 : vp_in (x3 + 3) G.2.2.2.2.2.2.1) (h4 : vp_in (x3 + 4) G.2.2.2.2.2.2.1) (h5 : vp_in (x3 + 5) G.2.2.2.2.2.2.1) (hk0 : ∀ σ, Inv σ → J G mL_law (120 + 1) 600000 7302250 SH 200 18454 1266 [some (.ref G.2.2.2.2.2.1), some (.ref (G.1 + off 0)), some (.ref (G.1 + off 1000)), some (.int x3)] [] σ (fun r _ _ => r = some (.int 1))) (σ : Mem) (hI : Inv σ) : J G mL_law (120 + 1) 600000 7302250 SH 200 18454 347 [some (.ref G.2.2.2.2.2.1), some (.ref (G.1 + off 0)), some (.ref (G.1 + off 1000)), some (.int x3)] [] σ (fun r _ _ => r = some (.int 1)) := by
  obtain ⟨fkC, hfC⟩ := shX11
  obtain ⟨fkM, hfM⟩ := shX12
  refine J_aload_n (pc := 347) dL_law_347 rfl ?_
  refine J_aload_n (pc := 348) dL_law_348 rfl ?_
  refine J_iload_n (pc := 349) dL_law_349 rfl ?_
  refine J_iconst (pc := 350) (v := 1) dL_law_350 (by decide) ?_
  refine J_iadd (pc := 351) dL_law_351 ?_
  refine J_sld (pc := 352) h1 dL_law_352 ?_
  refine J_aload_n (pc := 353) dL_law_353 rfl ?_
  refine J_iload_n (pc := 354) dL_law_354 rfl ?_
  refine J_iconst (pc := 355) (v := 2) dL_law_355 (by decide) ?_
  refine J_iadd (pc := 356) dL_law_356 ?_
  refine J_sld (pc := 357) h2 dL_law_357 ?_
  obtain ⟨r1, σ1, σ2, e1, e2, hI2⟩ := st_5 hA (G.2.2.2.2.2.2.2 (x3 + 1).toNatClampNeg) (G.2.2.2.2.2.2.2 (x3 + 2).toNatClampNeg) σ hI
  refine J_callV (pc := 358) (o := 0) (K' := fun q sh σ' => sh = SH ∧ (q, σ') = rI (r1, σ1)) [.int (G.2.2.2.2.2.2.2 (x3 + 1).toNatClampNeg), .int (G.2.2.2.2.2.2.2 (x3 + 2).toNatClampNeg)] lk_L_37 rfl (ci := 11) rfl hfC (w_X11_owed G 118 (G.2.2.2.2.2.2.2 (x3 + 1).toNatClampNeg) (G.2.2.2.2.2.2.2 (x3 + 2).toNatClampNeg) σ (r1, σ1) e1) (fun _ _ _ hk => by rw [hk.1]; rfl) (by decide) (by decide) rfl rfl (Nat.le_of_ble_eq_true rfl) dL_law_358 (fun q sh' σ' hk => ?_)
  obtain ⟨rfl, hk⟩ := hk
  cases hk
  show J G mL_law (120 + 1) 600000 7302250 SH 200 18454 361 [some (.ref G.2.2.2.2.2.1), some (.ref (G.1 + off 0)), some (.ref (G.1 + off 1000)), some (.int x3)] [.int r1] σ1 (fun r _ _ => r = some (.int 1))
  refine J_aload_n (pc := 361) dL_law_361 rfl ?_
  refine J_aload_n (pc := 362) dL_law_362 rfl ?_
  refine J_iload_n (pc := 363) dL_law_363 rfl ?_
  refine J_iconst (pc := 364) (v := 1) dL_law_364 (by decide) ?_
  refine J_iadd (pc := 365) dL_law_365 ?_
  refine J_sld (pc := 366) h1 dL_law_366 ?_
  refine J_aload_n (pc := 367) dL_law_367 rfl ?_
  refine J_iload_n (pc := 368) dL_law_368 rfl ?_
  refine J_iconst (pc := 369) (v := 2) dL_law_369 (by decide) ?_
  refine J_iadd (pc := 370) dL_law_370 ?_
  refine J_sld (pc := 371) h2 dL_law_371 ?_
  refine J_callV (pc := 372) (o := 1000) (K' := fun q sh σ' => sh = SH ∧ (q, σ') = rI (r1, σ2)) [.int (G.2.2.2.2.2.2.2 (x3 + 1).toNatClampNeg), .int (G.2.2.2.2.2.2.2 (x3 + 2).toNatClampNeg)] lk_L_40 rfl (ci := 12) rfl hfM (w_X12_owed G 117 (G.2.2.2.2.2.2.2 (x3 + 1).toNatClampNeg) (G.2.2.2.2.2.2.2 (x3 + 2).toNatClampNeg) σ1 (r1, σ2) e2) (fun _ _ _ hk => by rw [hk.1]; rfl) (by decide) (by decide) rfl rfl (Nat.le_of_ble_eq_true rfl) dL_law_372 (fun q sh' σ' hk => ?_)
  obtain ⟨rfl, hk⟩ := hk
  cases hk
  show J G mL_law (120 + 1) 600000 7302250 SH 200 18454 375 [some (.ref G.2.2.2.2.2.1), some (.ref (G.1 + off 0)), some (.ref (G.1 + off 1000)), some (.int x3)] [.int r1, .int r1] σ2 (fun r _ _ => r = some (.int 1))
  exact J_icmp_eq (pc := 375) (tgt := 1266) dL_law_375 (by decide) (fun _ => hk0 σ2 hI2) (fun z => absurd rfl z)
set_option maxHeartbeats 4000000 in
set_option maxRecDepth 100000 in
theorem law_c6 (G : JG) {Inv : Mem → Prop} (hA : AllSteps Inv) (x3 : Int32) (h1 : vp_in (x3 + 1) G.2.2.2.2.2.2.1) (h2 : vp_in (x3 + 2) G.2.2.2.2.2.2.1) (h3 : vp_in (x3 + 3) G.2.2.2.2.2.2.1) (h4 : vp_in (x3 + 4) G.2.2.2.2.2.2.1) (h5 : vp_in (x3 + 5) G.2.2.2.2.2.2.1) (hk0 : ∀ σ, Inv σ → J G mL_law (120 + 1) 600000 7302250 SH 200 18454 1266 [some (.ref G.2.2.2.2.2.1), some (.ref (G.1 + off 0)), some (.ref (G.1 + off 1000)), some (.int x3)] [] σ (fun r _ _ => r = some (.int 1))) (σ : Mem) (hI : Inv σ) : J G mL_law (120 + 1) 600000 7302250 SH 200 18454 380 [some (.ref G.2.2.2.2.2.1), some (.ref (G.1 + off 0)), some (.ref (G.1 + off 1000)), some (.int x3)] [] σ (fun r _ _ => r = some (.int 1)) := by
  obtain ⟨fkC, hfC⟩ := shX11
  obtain ⟨fkM, hfM⟩ := shX12
  refine J_aload_n (pc := 380) dL_law_380 rfl ?_
  refine J_aload_n (pc := 381) dL_law_381 rfl ?_
  refine J_iload_n (pc := 382) dL_law_382 rfl ?_
  refine J_iconst (pc := 383) (v := 1) dL_law_383 (by decide) ?_
  refine J_iadd (pc := 384) dL_law_384 ?_
  refine J_sld (pc := 385) h1 dL_law_385 ?_
  refine J_aload_n (pc := 386) dL_law_386 rfl ?_
  refine J_iload_n (pc := 387) dL_law_387 rfl ?_
  refine J_iconst (pc := 388) (v := 2) dL_law_388 (by decide) ?_
  refine J_iadd (pc := 389) dL_law_389 ?_
  refine J_sld (pc := 390) h2 dL_law_390 ?_
  refine J_if_eq (pc := 391) (tgt := 398) dL_law_391 (by decide) (fun hz => ?_) (fun hz => ?_)
  · skip
    refine J_iconst (pc := 398) (v := 0) dL_law_398 (by decide) ?_
    obtain ⟨r1, σ1, σ2, e1, e2, hI2⟩ := st_6 hA (G.2.2.2.2.2.2.2 (x3 + 1).toNatClampNeg) 0 (Or.inl rfl) σ hI
    refine J_callV (pc := 399) (o := 0) (K' := fun q sh σ' => sh = SH ∧ (q, σ') = rI (r1, σ1)) [.int (G.2.2.2.2.2.2.2 (x3 + 1).toNatClampNeg), .int (0)] lk_L_41 rfl (ci := 11) rfl hfC (w_X11_sum G 118 (G.2.2.2.2.2.2.2 (x3 + 1).toNatClampNeg) 0 σ (r1, σ1) e1) (fun _ _ _ hk => by rw [hk.1]; rfl) (by decide) (by decide) rfl rfl (Nat.le_of_ble_eq_true rfl) dL_law_399 (fun q sh' σ' hk => ?_)
    obtain ⟨rfl, hk⟩ := hk
    cases hk
    show J G mL_law (120 + 1) 600000 7302250 SH 200 18454 402 [some (.ref G.2.2.2.2.2.1), some (.ref (G.1 + off 0)), some (.ref (G.1 + off 1000)), some (.int x3)] [.int r1] σ1 (fun r _ _ => r = some (.int 1))
    refine J_aload_n (pc := 402) dL_law_402 rfl ?_
    refine J_aload_n (pc := 403) dL_law_403 rfl ?_
    refine J_iload_n (pc := 404) dL_law_404 rfl ?_
    refine J_iconst (pc := 405) (v := 1) dL_law_405 (by decide) ?_
    refine J_iadd (pc := 406) dL_law_406 ?_
    refine J_sld (pc := 407) h1 dL_law_407 ?_
    refine J_aload_n (pc := 408) dL_law_408 rfl ?_
    refine J_iload_n (pc := 409) dL_law_409 rfl ?_
    refine J_iconst (pc := 410) (v := 2) dL_law_410 (by decide) ?_
    refine J_iadd (pc := 411) dL_law_411 ?_
    refine J_sld (pc := 412) h2 dL_law_412 ?_
    refine J_if_eq (pc := 413) (tgt := 420) dL_law_413 (by decide) (fun _ => ?_) (fun z => absurd hz z)
    refine J_iconst (pc := 420) (v := 0) dL_law_420 (by decide) ?_
    refine J_callV (pc := 421) (o := 1000) (K' := fun q sh σ' => sh = SH ∧ (q, σ') = rI (r1, σ2)) [.int (G.2.2.2.2.2.2.2 (x3 + 1).toNatClampNeg), .int (0)] lk_L_45 rfl (ci := 12) rfl hfM (w_X12_sum G 118 (G.2.2.2.2.2.2.2 (x3 + 1).toNatClampNeg) 0 σ1 (r1, σ2) e2) (fun _ _ _ hk => by rw [hk.1]; rfl) (by decide) (by decide) rfl rfl (Nat.le_of_ble_eq_true rfl) dL_law_421 (fun q sh' σ' hk => ?_)
    obtain ⟨rfl, hk⟩ := hk
    cases hk
    show J G mL_law (120 + 1) 600000 7302250 SH 200 18454 424 [some (.ref G.2.2.2.2.2.1), some (.ref (G.1 + off 0)), some (.ref (G.1 + off 1000)), some (.int x3)] [.int r1, .int r1] σ2 (fun r _ _ => r = some (.int 1))
    exact J_icmp_eq (pc := 424) (tgt := 1266) dL_law_424 (by decide) (fun _ => hk0 σ2 hI2) (fun z => absurd rfl z)
  · skip
    refine J_iconst (pc := 394) (v := 1) dL_law_394 (by decide) ?_
    refine J_goto (pc := 395) (tgt := 399) dL_law_395 (by decide) ?_
    obtain ⟨r1, σ1, σ2, e1, e2, hI2⟩ := st_6 hA (G.2.2.2.2.2.2.2 (x3 + 1).toNatClampNeg) 1 (Or.inr rfl) σ hI
    refine J_callV (pc := 399) (o := 0) (K' := fun q sh σ' => sh = SH ∧ (q, σ') = rI (r1, σ1)) [.int (G.2.2.2.2.2.2.2 (x3 + 1).toNatClampNeg), .int (1)] lk_L_41 rfl (ci := 11) rfl hfC (w_X11_sum G 118 (G.2.2.2.2.2.2.2 (x3 + 1).toNatClampNeg) 1 σ (r1, σ1) e1) (fun _ _ _ hk => by rw [hk.1]; rfl) (by decide) (by decide) rfl rfl (Nat.le_of_ble_eq_true rfl) dL_law_399 (fun q sh' σ' hk => ?_)
    obtain ⟨rfl, hk⟩ := hk
    cases hk
    show J G mL_law (120 + 1) 600000 7302250 SH 200 18454 402 [some (.ref G.2.2.2.2.2.1), some (.ref (G.1 + off 0)), some (.ref (G.1 + off 1000)), some (.int x3)] [.int r1] σ1 (fun r _ _ => r = some (.int 1))
    refine J_aload_n (pc := 402) dL_law_402 rfl ?_
    refine J_aload_n (pc := 403) dL_law_403 rfl ?_
    refine J_iload_n (pc := 404) dL_law_404 rfl ?_
    refine J_iconst (pc := 405) (v := 1) dL_law_405 (by decide) ?_
    refine J_iadd (pc := 406) dL_law_406 ?_
    refine J_sld (pc := 407) h1 dL_law_407 ?_
    refine J_aload_n (pc := 408) dL_law_408 rfl ?_
    refine J_iload_n (pc := 409) dL_law_409 rfl ?_
    refine J_iconst (pc := 410) (v := 2) dL_law_410 (by decide) ?_
    refine J_iadd (pc := 411) dL_law_411 ?_
    refine J_sld (pc := 412) h2 dL_law_412 ?_
    refine J_if_eq (pc := 413) (tgt := 420) dL_law_413 (by decide) (fun z => absurd z hz) (fun _ => ?_)
    refine J_iconst (pc := 416) (v := 1) dL_law_416 (by decide) ?_
    refine J_goto (pc := 417) (tgt := 421) dL_law_417 (by decide) ?_
    refine J_callV (pc := 421) (o := 1000) (K' := fun q sh σ' => sh = SH ∧ (q, σ') = rI (r1, σ2)) [.int (G.2.2.2.2.2.2.2 (x3 + 1).toNatClampNeg), .int (1)] lk_L_45 rfl (ci := 12) rfl hfM (w_X12_sum G 118 (G.2.2.2.2.2.2.2 (x3 + 1).toNatClampNeg) 1 σ1 (r1, σ2) e2) (fun _ _ _ hk => by rw [hk.1]; rfl) (by decide) (by decide) rfl rfl (Nat.le_of_ble_eq_true rfl) dL_law_421 (fun q sh' σ' hk => ?_)
    obtain ⟨rfl, hk⟩ := hk
    cases hk
    show J G mL_law (120 + 1) 600000 7302250 SH 200 18454 424 [some (.ref G.2.2.2.2.2.1), some (.ref (G.1 + off 0)), some (.ref (G.1 + off 1000)), some (.int x3)] [.int r1, .int r1] σ2 (fun r _ _ => r = some (.int 1))
    exact J_icmp_eq (pc := 424) (tgt := 1266) dL_law_424 (by decide) (fun _ => hk0 σ2 hI2) (fun z => absurd rfl z)
set_option maxHeartbeats 4000000 in
set_option maxRecDepth 100000 in
theorem law_c7 (G : JG) {Inv : Mem → Prop} (hA : AllSteps Inv) (x3 : Int32) (h1 : vp_in (x3 + 1) G.2.2.2.2.2.2.1) (h2 : vp_in (x3 + 2) G.2.2.2.2.2.2.1) (h3 : vp_in (x3 + 3) G.2.2.2.2.2.2.1) (h4 : vp_in (x3 + 4) G.2.2.2.2.2.2.1) (h5 : vp_in (x3 + 5) G.2.2.2.2.2.2.1) (hk0 : ∀ σ, Inv σ → J G mL_law (120 + 1) 600000 7302250 SH 200 18454 1266 [some (.ref G.2.2.2.2.2.1), some (.ref (G.1 + off 0)), some (.ref (G.1 + off 1000)), some (.int x3)] [] σ (fun r _ _ => r = some (.int 1))) (σ : Mem) (hI : Inv σ) : J G mL_law (120 + 1) 600000 7302250 SH 200 18454 429 [some (.ref G.2.2.2.2.2.1), some (.ref (G.1 + off 0)), some (.ref (G.1 + off 1000)), some (.int x3)] [] σ (fun r _ _ => r = some (.int 1)) := by
  obtain ⟨fkC, hfC⟩ := shX11
  obtain ⟨fkM, hfM⟩ := shX12
  refine J_aload_n (pc := 429) dL_law_429 rfl ?_
  refine J_aload_n (pc := 430) dL_law_430 rfl ?_
  refine J_iload_n (pc := 431) dL_law_431 rfl ?_
  refine J_iconst (pc := 432) (v := 1) dL_law_432 (by decide) ?_
  refine J_iadd (pc := 433) dL_law_433 ?_
  refine J_sld (pc := 434) h1 dL_law_434 ?_
  refine J_aload_n (pc := 435) dL_law_435 rfl ?_
  refine J_iload_n (pc := 436) dL_law_436 rfl ?_
  refine J_iconst (pc := 437) (v := 2) dL_law_437 (by decide) ?_
  refine J_iadd (pc := 438) dL_law_438 ?_
  refine J_sld (pc := 439) h2 dL_law_439 ?_
  obtain ⟨r1, σ1, σ2, e1, e2, hI2⟩ := st_7 hA (G.2.2.2.2.2.2.2 (x3 + 1).toNatClampNeg) (G.2.2.2.2.2.2.2 (x3 + 2).toNatClampNeg) σ hI
  refine J_callV (pc := 440) (o := 0) (K' := fun q sh σ' => sh = SH ∧ (q, σ') = rI (r1, σ1)) [.int (G.2.2.2.2.2.2.2 (x3 + 1).toNatClampNeg), .int (G.2.2.2.2.2.2.2 (x3 + 2).toNatClampNeg)] lk_L_46 rfl (ci := 11) rfl hfC (w_X11_wet G 118 (G.2.2.2.2.2.2.2 (x3 + 1).toNatClampNeg) (G.2.2.2.2.2.2.2 (x3 + 2).toNatClampNeg) σ (r1, σ1) e1) (fun _ _ _ hk => by rw [hk.1]; rfl) (by decide) (by decide) rfl rfl (Nat.le_of_ble_eq_true rfl) dL_law_440 (fun q sh' σ' hk => ?_)
  obtain ⟨rfl, hk⟩ := hk
  cases hk
  show J G mL_law (120 + 1) 600000 7302250 SH 200 18454 443 [some (.ref G.2.2.2.2.2.1), some (.ref (G.1 + off 0)), some (.ref (G.1 + off 1000)), some (.int x3)] [.int r1] σ1 (fun r _ _ => r = some (.int 1))
  refine J_aload_n (pc := 443) dL_law_443 rfl ?_
  refine J_aload_n (pc := 444) dL_law_444 rfl ?_
  refine J_iload_n (pc := 445) dL_law_445 rfl ?_
  refine J_iconst (pc := 446) (v := 1) dL_law_446 (by decide) ?_
  refine J_iadd (pc := 447) dL_law_447 ?_
  refine J_sld (pc := 448) h1 dL_law_448 ?_
  refine J_aload_n (pc := 449) dL_law_449 rfl ?_
  refine J_iload_n (pc := 450) dL_law_450 rfl ?_
  refine J_iconst (pc := 451) (v := 2) dL_law_451 (by decide) ?_
  refine J_iadd (pc := 452) dL_law_452 ?_
  refine J_sld (pc := 453) h2 dL_law_453 ?_
  refine J_callV (pc := 454) (o := 1000) (K' := fun q sh σ' => sh = SH ∧ (q, σ') = rI (r1, σ2)) [.int (G.2.2.2.2.2.2.2 (x3 + 1).toNatClampNeg), .int (G.2.2.2.2.2.2.2 (x3 + 2).toNatClampNeg)] lk_L_49 rfl (ci := 12) rfl hfM (w_X12_wet G 116 (G.2.2.2.2.2.2.2 (x3 + 1).toNatClampNeg) (G.2.2.2.2.2.2.2 (x3 + 2).toNatClampNeg) σ1 (r1, σ2) e2) (fun _ _ _ hk => by rw [hk.1]; rfl) (by decide) (by decide) rfl rfl (Nat.le_of_ble_eq_true rfl) dL_law_454 (fun q sh' σ' hk => ?_)
  obtain ⟨rfl, hk⟩ := hk
  cases hk
  show J G mL_law (120 + 1) 600000 7302250 SH 200 18454 457 [some (.ref G.2.2.2.2.2.1), some (.ref (G.1 + off 0)), some (.ref (G.1 + off 1000)), some (.int x3)] [.int r1, .int r1] σ2 (fun r _ _ => r = some (.int 1))
  exact J_icmp_eq (pc := 457) (tgt := 1266) dL_law_457 (by decide) (fun _ => hk0 σ2 hI2) (fun z => absurd rfl z)
set_option maxHeartbeats 4000000 in
set_option maxRecDepth 100000 in
theorem law_c8 (G : JG) {Inv : Mem → Prop} (hA : AllSteps Inv) (x3 : Int32) (h1 : vp_in (x3 + 1) G.2.2.2.2.2.2.1) (h2 : vp_in (x3 + 2) G.2.2.2.2.2.2.1) (h3 : vp_in (x3 + 3) G.2.2.2.2.2.2.1) (h4 : vp_in (x3 + 4) G.2.2.2.2.2.2.1) (h5 : vp_in (x3 + 5) G.2.2.2.2.2.2.1) (hk0 : ∀ σ, Inv σ → J G mL_law (120 + 1) 600000 7302250 SH 200 18454 1266 [some (.ref G.2.2.2.2.2.1), some (.ref (G.1 + off 0)), some (.ref (G.1 + off 1000)), some (.int x3)] [] σ (fun r _ _ => r = some (.int 1))) (σ : Mem) (hI : Inv σ) : J G mL_law (120 + 1) 600000 7302250 SH 200 18454 462 [some (.ref G.2.2.2.2.2.1), some (.ref (G.1 + off 0)), some (.ref (G.1 + off 1000)), some (.int x3)] [] σ (fun r _ _ => r = some (.int 1)) := by
  obtain ⟨fkC, hfC⟩ := shX11
  obtain ⟨fkM, hfM⟩ := shX12
  refine J_aload_n (pc := 462) dL_law_462 rfl ?_
  refine J_aload_n (pc := 463) dL_law_463 rfl ?_
  refine J_iload_n (pc := 464) dL_law_464 rfl ?_
  refine J_iconst (pc := 465) (v := 1) dL_law_465 (by decide) ?_
  refine J_iadd (pc := 466) dL_law_466 ?_
  refine J_sld (pc := 467) h1 dL_law_467 ?_
  obtain ⟨r1, σ1, σ2, e1, e2, hI2⟩ := st_8 hA (G.2.2.2.2.2.2.2 (x3 + 1).toNatClampNeg) σ hI
  refine J_callV (pc := 468) (o := 0) (K' := fun q sh σ' => sh = SH ∧ (q, σ') = rI (r1, σ1)) [.int (G.2.2.2.2.2.2.2 (x3 + 1).toNatClampNeg)] lk_L_50 rfl (ci := 11) rfl hfC (w_X11_pays G 114 (G.2.2.2.2.2.2.2 (x3 + 1).toNatClampNeg) σ (r1, σ1) e1) (fun _ _ _ hk => by rw [hk.1]; rfl) (by decide) (by decide) rfl rfl (Nat.le_of_ble_eq_true rfl) dL_law_468 (fun q sh' σ' hk => ?_)
  obtain ⟨rfl, hk⟩ := hk
  cases hk
  show J G mL_law (120 + 1) 600000 7302250 SH 200 18454 471 [some (.ref G.2.2.2.2.2.1), some (.ref (G.1 + off 0)), some (.ref (G.1 + off 1000)), some (.int x3)] [.int r1] σ1 (fun r _ _ => r = some (.int 1))
  refine J_aload_n (pc := 471) dL_law_471 rfl ?_
  refine J_aload_n (pc := 472) dL_law_472 rfl ?_
  refine J_iload_n (pc := 473) dL_law_473 rfl ?_
  refine J_iconst (pc := 474) (v := 1) dL_law_474 (by decide) ?_
  refine J_iadd (pc := 475) dL_law_475 ?_
  refine J_sld (pc := 476) h1 dL_law_476 ?_
  refine J_callV (pc := 477) (o := 1000) (K' := fun q sh σ' => sh = SH ∧ (q, σ') = rI (r1, σ2)) [.int (G.2.2.2.2.2.2.2 (x3 + 1).toNatClampNeg)] lk_L_53 rfl (ci := 12) rfl hfM (w_X12_pays G 114 (G.2.2.2.2.2.2.2 (x3 + 1).toNatClampNeg) σ1 (r1, σ2) e2) (fun _ _ _ hk => by rw [hk.1]; rfl) (by decide) (by decide) rfl rfl (Nat.le_of_ble_eq_true rfl) dL_law_477 (fun q sh' σ' hk => ?_)
  obtain ⟨rfl, hk⟩ := hk
  cases hk
  show J G mL_law (120 + 1) 600000 7302250 SH 200 18454 480 [some (.ref G.2.2.2.2.2.1), some (.ref (G.1 + off 0)), some (.ref (G.1 + off 1000)), some (.int x3)] [.int r1, .int r1] σ2 (fun r _ _ => r = some (.int 1))
  exact J_icmp_eq (pc := 480) (tgt := 1266) dL_law_480 (by decide) (fun _ => hk0 σ2 hI2) (fun z => absurd rfl z)
set_option maxHeartbeats 4000000 in
set_option maxRecDepth 100000 in
theorem law_c9 (G : JG) {Inv : Mem → Prop} (hA : AllSteps Inv) (x3 : Int32) (h1 : vp_in (x3 + 1) G.2.2.2.2.2.2.1) (h2 : vp_in (x3 + 2) G.2.2.2.2.2.2.1) (h3 : vp_in (x3 + 3) G.2.2.2.2.2.2.1) (h4 : vp_in (x3 + 4) G.2.2.2.2.2.2.1) (h5 : vp_in (x3 + 5) G.2.2.2.2.2.2.1) (hk0 : ∀ σ, Inv σ → J G mL_law (120 + 1) 600000 7302250 SH 200 18454 1266 [some (.ref G.2.2.2.2.2.1), some (.ref (G.1 + off 0)), some (.ref (G.1 + off 1000)), some (.int x3)] [] σ (fun r _ _ => r = some (.int 1))) (σ : Mem) (hI : Inv σ) : J G mL_law (120 + 1) 600000 7302250 SH 200 18454 485 [some (.ref G.2.2.2.2.2.1), some (.ref (G.1 + off 0)), some (.ref (G.1 + off 1000)), some (.int x3)] [] σ (fun r _ _ => r = some (.int 1)) := by
  obtain ⟨fkC, hfC⟩ := shX11
  obtain ⟨fkM, hfM⟩ := shX12
  refine J_aload_n (pc := 485) dL_law_485 rfl ?_
  refine J_aload_n (pc := 486) dL_law_486 rfl ?_
  refine J_iload_n (pc := 487) dL_law_487 rfl ?_
  refine J_iconst (pc := 488) (v := 1) dL_law_488 (by decide) ?_
  refine J_iadd (pc := 489) dL_law_489 ?_
  refine J_sld (pc := 490) h1 dL_law_490 ?_
  refine J_aload_n (pc := 491) dL_law_491 rfl ?_
  refine J_iload_n (pc := 492) dL_law_492 rfl ?_
  refine J_iconst (pc := 493) (v := 2) dL_law_493 (by decide) ?_
  refine J_iadd (pc := 494) dL_law_494 ?_
  refine J_sld (pc := 495) h2 dL_law_495 ?_
  obtain ⟨r1, σ1, σ2, e1, e2, hI2⟩ := st_9 hA (G.2.2.2.2.2.2.2 (x3 + 1).toNatClampNeg) (G.2.2.2.2.2.2.2 (x3 + 2).toNatClampNeg) σ hI
  refine J_callV (pc := 496) (o := 0) (K' := fun q sh σ' => sh = SH ∧ (q, σ') = rI (r1, σ1)) [.int (G.2.2.2.2.2.2.2 (x3 + 1).toNatClampNeg), .int (G.2.2.2.2.2.2.2 (x3 + 2).toNatClampNeg)] lk_L_54 rfl (ci := 11) rfl hfC (w_X11_aim G 117 (G.2.2.2.2.2.2.2 (x3 + 1).toNatClampNeg) (G.2.2.2.2.2.2.2 (x3 + 2).toNatClampNeg) σ (r1, σ1) e1) (fun _ _ _ hk => by rw [hk.1]; rfl) (by decide) (by decide) rfl rfl (Nat.le_of_ble_eq_true rfl) dL_law_496 (fun q sh' σ' hk => ?_)
  obtain ⟨rfl, hk⟩ := hk
  cases hk
  show J G mL_law (120 + 1) 600000 7302250 SH 200 18454 499 [some (.ref G.2.2.2.2.2.1), some (.ref (G.1 + off 0)), some (.ref (G.1 + off 1000)), some (.int x3)] [.int r1] σ1 (fun r _ _ => r = some (.int 1))
  refine J_aload_n (pc := 499) dL_law_499 rfl ?_
  refine J_aload_n (pc := 500) dL_law_500 rfl ?_
  refine J_iload_n (pc := 501) dL_law_501 rfl ?_
  refine J_iconst (pc := 502) (v := 1) dL_law_502 (by decide) ?_
  refine J_iadd (pc := 503) dL_law_503 ?_
  refine J_sld (pc := 504) h1 dL_law_504 ?_
  refine J_aload_n (pc := 505) dL_law_505 rfl ?_
  refine J_iload_n (pc := 506) dL_law_506 rfl ?_
  refine J_iconst (pc := 507) (v := 2) dL_law_507 (by decide) ?_
  refine J_iadd (pc := 508) dL_law_508 ?_
  refine J_sld (pc := 509) h2 dL_law_509 ?_
  refine J_callV (pc := 510) (o := 1000) (K' := fun q sh σ' => sh = SH ∧ (q, σ') = rI (r1, σ2)) [.int (G.2.2.2.2.2.2.2 (x3 + 1).toNatClampNeg), .int (G.2.2.2.2.2.2.2 (x3 + 2).toNatClampNeg)] lk_L_57 rfl (ci := 12) rfl hfM (w_X12_aim G 118 (G.2.2.2.2.2.2.2 (x3 + 1).toNatClampNeg) (G.2.2.2.2.2.2.2 (x3 + 2).toNatClampNeg) σ1 (r1, σ2) e2) (fun _ _ _ hk => by rw [hk.1]; rfl) (by decide) (by decide) rfl rfl (Nat.le_of_ble_eq_true rfl) dL_law_510 (fun q sh' σ' hk => ?_)
  obtain ⟨rfl, hk⟩ := hk
  cases hk
  show J G mL_law (120 + 1) 600000 7302250 SH 200 18454 513 [some (.ref G.2.2.2.2.2.1), some (.ref (G.1 + off 0)), some (.ref (G.1 + off 1000)), some (.int x3)] [.int r1, .int r1] σ2 (fun r _ _ => r = some (.int 1))
  exact J_icmp_eq (pc := 513) (tgt := 1266) dL_law_513 (by decide) (fun _ => hk0 σ2 hI2) (fun z => absurd rfl z)
set_option maxHeartbeats 4000000 in
set_option maxRecDepth 100000 in
theorem law_c10 (G : JG) {Inv : Mem → Prop} (hA : AllSteps Inv) (x3 : Int32) (h1 : vp_in (x3 + 1) G.2.2.2.2.2.2.1) (h2 : vp_in (x3 + 2) G.2.2.2.2.2.2.1) (h3 : vp_in (x3 + 3) G.2.2.2.2.2.2.1) (h4 : vp_in (x3 + 4) G.2.2.2.2.2.2.1) (h5 : vp_in (x3 + 5) G.2.2.2.2.2.2.1) (hk0 : ∀ σ, Inv σ → J G mL_law (120 + 1) 600000 7302250 SH 200 18454 1266 [some (.ref G.2.2.2.2.2.1), some (.ref (G.1 + off 0)), some (.ref (G.1 + off 1000)), some (.int x3)] [] σ (fun r _ _ => r = some (.int 1))) (σ : Mem) (hI : Inv σ) : J G mL_law (120 + 1) 600000 7302250 SH 200 18454 518 [some (.ref G.2.2.2.2.2.1), some (.ref (G.1 + off 0)), some (.ref (G.1 + off 1000)), some (.int x3)] [] σ (fun r _ _ => r = some (.int 1)) := by
  obtain ⟨fkC, hfC⟩ := shX11
  obtain ⟨fkM, hfM⟩ := shX12
  refine J_aload_n (pc := 518) dL_law_518 rfl ?_
  refine J_aload_n (pc := 519) dL_law_519 rfl ?_
  refine J_iload_n (pc := 520) dL_law_520 rfl ?_
  refine J_iconst (pc := 521) (v := 1) dL_law_521 (by decide) ?_
  refine J_iadd (pc := 522) dL_law_522 ?_
  refine J_sld (pc := 523) h1 dL_law_523 ?_
  refine J_aload_n (pc := 524) dL_law_524 rfl ?_
  refine J_iload_n (pc := 525) dL_law_525 rfl ?_
  refine J_iconst (pc := 526) (v := 2) dL_law_526 (by decide) ?_
  refine J_iadd (pc := 527) dL_law_527 ?_
  refine J_sld (pc := 528) h2 dL_law_528 ?_
  obtain ⟨r1, σ1, σ2, e1, e2, hI2⟩ := st_10 hA (G.2.2.2.2.2.2.2 (x3 + 1).toNatClampNeg) (G.2.2.2.2.2.2.2 (x3 + 2).toNatClampNeg) σ hI
  refine J_callV (pc := 529) (o := 0) (K' := fun q sh σ' => sh = SH ∧ (q, σ') = rI (r1, σ1)) [.int (G.2.2.2.2.2.2.2 (x3 + 1).toNatClampNeg), .int (G.2.2.2.2.2.2.2 (x3 + 2).toNatClampNeg)] lk_L_58 rfl (ci := 11) rfl hfC (w_X11_stand G 117 (G.2.2.2.2.2.2.2 (x3 + 1).toNatClampNeg) (G.2.2.2.2.2.2.2 (x3 + 2).toNatClampNeg) σ (r1, σ1) e1) (fun _ _ _ hk => by rw [hk.1]; rfl) (by decide) (by decide) rfl rfl (Nat.le_of_ble_eq_true rfl) dL_law_529 (fun q sh' σ' hk => ?_)
  obtain ⟨rfl, hk⟩ := hk
  cases hk
  show J G mL_law (120 + 1) 600000 7302250 SH 200 18454 532 [some (.ref G.2.2.2.2.2.1), some (.ref (G.1 + off 0)), some (.ref (G.1 + off 1000)), some (.int x3)] [.int r1] σ1 (fun r _ _ => r = some (.int 1))
  refine J_aload_n (pc := 532) dL_law_532 rfl ?_
  refine J_aload_n (pc := 533) dL_law_533 rfl ?_
  refine J_iload_n (pc := 534) dL_law_534 rfl ?_
  refine J_iconst (pc := 535) (v := 1) dL_law_535 (by decide) ?_
  refine J_iadd (pc := 536) dL_law_536 ?_
  refine J_sld (pc := 537) h1 dL_law_537 ?_
  refine J_aload_n (pc := 538) dL_law_538 rfl ?_
  refine J_iload_n (pc := 539) dL_law_539 rfl ?_
  refine J_iconst (pc := 540) (v := 2) dL_law_540 (by decide) ?_
  refine J_iadd (pc := 541) dL_law_541 ?_
  refine J_sld (pc := 542) h2 dL_law_542 ?_
  refine J_callV (pc := 543) (o := 1000) (K' := fun q sh σ' => sh = SH ∧ (q, σ') = rI (r1, σ2)) [.int (G.2.2.2.2.2.2.2 (x3 + 1).toNatClampNeg), .int (G.2.2.2.2.2.2.2 (x3 + 2).toNatClampNeg)] lk_L_61 rfl (ci := 12) rfl hfM (w_X12_stand G 118 (G.2.2.2.2.2.2.2 (x3 + 1).toNatClampNeg) (G.2.2.2.2.2.2.2 (x3 + 2).toNatClampNeg) σ1 (r1, σ2) e2) (fun _ _ _ hk => by rw [hk.1]; rfl) (by decide) (by decide) rfl rfl (Nat.le_of_ble_eq_true rfl) dL_law_543 (fun q sh' σ' hk => ?_)
  obtain ⟨rfl, hk⟩ := hk
  cases hk
  show J G mL_law (120 + 1) 600000 7302250 SH 200 18454 546 [some (.ref G.2.2.2.2.2.1), some (.ref (G.1 + off 0)), some (.ref (G.1 + off 1000)), some (.int x3)] [.int r1, .int r1] σ2 (fun r _ _ => r = some (.int 1))
  exact J_icmp_eq (pc := 546) (tgt := 1266) dL_law_546 (by decide) (fun _ => hk0 σ2 hI2) (fun z => absurd rfl z)
set_option maxHeartbeats 4000000 in
set_option maxRecDepth 100000 in
theorem law_c11 (G : JG) {Inv : Mem → Prop} (hA : AllSteps Inv) (x3 : Int32) (h1 : vp_in (x3 + 1) G.2.2.2.2.2.2.1) (h2 : vp_in (x3 + 2) G.2.2.2.2.2.2.1) (h3 : vp_in (x3 + 3) G.2.2.2.2.2.2.1) (h4 : vp_in (x3 + 4) G.2.2.2.2.2.2.1) (h5 : vp_in (x3 + 5) G.2.2.2.2.2.2.1) (hk0 : ∀ σ, Inv σ → J G mL_law (120 + 1) 600000 7302250 SH 200 18454 1266 [some (.ref G.2.2.2.2.2.1), some (.ref (G.1 + off 0)), some (.ref (G.1 + off 1000)), some (.int x3)] [] σ (fun r _ _ => r = some (.int 1))) (σ : Mem) (hI : Inv σ) : J G mL_law (120 + 1) 600000 7302250 SH 200 18454 551 [some (.ref G.2.2.2.2.2.1), some (.ref (G.1 + off 0)), some (.ref (G.1 + off 1000)), some (.int x3)] [] σ (fun r _ _ => r = some (.int 1)) := by
  obtain ⟨fkC, hfC⟩ := shX11
  obtain ⟨fkM, hfM⟩ := shX12
  refine J_aload_n (pc := 551) dL_law_551 rfl ?_
  refine J_aload_n (pc := 552) dL_law_552 rfl ?_
  refine J_iload_n (pc := 553) dL_law_553 rfl ?_
  refine J_iconst (pc := 554) (v := 1) dL_law_554 (by decide) ?_
  refine J_iadd (pc := 555) dL_law_555 ?_
  refine J_sld (pc := 556) h1 dL_law_556 ?_
  obtain ⟨r1, σ1, σ2, e1, e2, hI2⟩ := st_11 hA (G.2.2.2.2.2.2.2 (x3 + 1).toNatClampNeg) σ hI
  refine J_callV (pc := 557) (o := 0) (K' := fun q sh σ' => sh = SH ∧ (q, σ') = rI (r1, σ1)) [.int (G.2.2.2.2.2.2.2 (x3 + 1).toNatClampNeg)] lk_L_62 rfl (ci := 11) rfl hfC (w_X11_hours G 116 (G.2.2.2.2.2.2.2 (x3 + 1).toNatClampNeg) σ (r1, σ1) e1) (fun _ _ _ hk => by rw [hk.1]; rfl) (by decide) (by decide) rfl rfl (Nat.le_of_ble_eq_true rfl) dL_law_557 (fun q sh' σ' hk => ?_)
  obtain ⟨rfl, hk⟩ := hk
  cases hk
  show J G mL_law (120 + 1) 600000 7302250 SH 200 18454 560 [some (.ref G.2.2.2.2.2.1), some (.ref (G.1 + off 0)), some (.ref (G.1 + off 1000)), some (.int x3)] [.int r1] σ1 (fun r _ _ => r = some (.int 1))
  refine J_aload_n (pc := 560) dL_law_560 rfl ?_
  refine J_aload_n (pc := 561) dL_law_561 rfl ?_
  refine J_iload_n (pc := 562) dL_law_562 rfl ?_
  refine J_iconst (pc := 563) (v := 1) dL_law_563 (by decide) ?_
  refine J_iadd (pc := 564) dL_law_564 ?_
  refine J_sld (pc := 565) h1 dL_law_565 ?_
  refine J_callV (pc := 566) (o := 1000) (K' := fun q sh σ' => sh = SH ∧ (q, σ') = rI (r1, σ2)) [.int (G.2.2.2.2.2.2.2 (x3 + 1).toNatClampNeg)] lk_L_65 rfl (ci := 12) rfl hfM (w_X12_hours G 113 (G.2.2.2.2.2.2.2 (x3 + 1).toNatClampNeg) σ1 (r1, σ2) e2) (fun _ _ _ hk => by rw [hk.1]; rfl) (by decide) (by decide) rfl rfl (Nat.le_of_ble_eq_true rfl) dL_law_566 (fun q sh' σ' hk => ?_)
  obtain ⟨rfl, hk⟩ := hk
  cases hk
  show J G mL_law (120 + 1) 600000 7302250 SH 200 18454 569 [some (.ref G.2.2.2.2.2.1), some (.ref (G.1 + off 0)), some (.ref (G.1 + off 1000)), some (.int x3)] [.int r1, .int r1] σ2 (fun r _ _ => r = some (.int 1))
  exact J_icmp_eq (pc := 569) (tgt := 1266) dL_law_569 (by decide) (fun _ => hk0 σ2 hI2) (fun z => absurd rfl z)
set_option maxHeartbeats 4000000 in
set_option maxRecDepth 100000 in
theorem law_c12 (G : JG) {Inv : Mem → Prop} (hA : AllSteps Inv) (x3 : Int32) (h1 : vp_in (x3 + 1) G.2.2.2.2.2.2.1) (h2 : vp_in (x3 + 2) G.2.2.2.2.2.2.1) (h3 : vp_in (x3 + 3) G.2.2.2.2.2.2.1) (h4 : vp_in (x3 + 4) G.2.2.2.2.2.2.1) (h5 : vp_in (x3 + 5) G.2.2.2.2.2.2.1) (hk0 : ∀ σ, Inv σ → J G mL_law (120 + 1) 600000 7302250 SH 200 18454 1266 [some (.ref G.2.2.2.2.2.1), some (.ref (G.1 + off 0)), some (.ref (G.1 + off 1000)), some (.int x3)] [] σ (fun r _ _ => r = some (.int 1))) (σ : Mem) (hI : Inv σ) : J G mL_law (120 + 1) 600000 7302250 SH 200 18454 574 [some (.ref G.2.2.2.2.2.1), some (.ref (G.1 + off 0)), some (.ref (G.1 + off 1000)), some (.int x3)] [] σ (fun r _ _ => r = some (.int 1)) := by
  obtain ⟨fkC, hfC⟩ := shX11
  obtain ⟨fkM, hfM⟩ := shX12
  refine J_aload_n (pc := 574) dL_law_574 rfl ?_
  refine J_aload_n (pc := 575) dL_law_575 rfl ?_
  refine J_iload_n (pc := 576) dL_law_576 rfl ?_
  refine J_iconst (pc := 577) (v := 1) dL_law_577 (by decide) ?_
  refine J_iadd (pc := 578) dL_law_578 ?_
  refine J_sld (pc := 579) h1 dL_law_579 ?_
  refine J_aload_n (pc := 580) dL_law_580 rfl ?_
  refine J_iload_n (pc := 581) dL_law_581 rfl ?_
  refine J_iconst (pc := 582) (v := 2) dL_law_582 (by decide) ?_
  refine J_iadd (pc := 583) dL_law_583 ?_
  refine J_sld (pc := 584) h2 dL_law_584 ?_
  obtain ⟨r1, σ1, σ2, e1, e2, hI2⟩ := st_12 hA (G.2.2.2.2.2.2.2 (x3 + 1).toNatClampNeg) (G.2.2.2.2.2.2.2 (x3 + 2).toNatClampNeg) σ hI
  refine J_callV (pc := 585) (o := 0) (K' := fun q sh σ' => sh = SH ∧ (q, σ') = rI (r1, σ1)) [.int (G.2.2.2.2.2.2.2 (x3 + 1).toNatClampNeg), .int (G.2.2.2.2.2.2.2 (x3 + 2).toNatClampNeg)] lk_L_66 rfl (ci := 11) rfl hfC (w_X11_offset G 117 (G.2.2.2.2.2.2.2 (x3 + 1).toNatClampNeg) (G.2.2.2.2.2.2.2 (x3 + 2).toNatClampNeg) σ (r1, σ1) e1) (fun _ _ _ hk => by rw [hk.1]; rfl) (by decide) (by decide) rfl rfl (Nat.le_of_ble_eq_true rfl) dL_law_585 (fun q sh' σ' hk => ?_)
  obtain ⟨rfl, hk⟩ := hk
  cases hk
  show J G mL_law (120 + 1) 600000 7302250 SH 200 18454 588 [some (.ref G.2.2.2.2.2.1), some (.ref (G.1 + off 0)), some (.ref (G.1 + off 1000)), some (.int x3)] [.int r1] σ1 (fun r _ _ => r = some (.int 1))
  refine J_aload_n (pc := 588) dL_law_588 rfl ?_
  refine J_aload_n (pc := 589) dL_law_589 rfl ?_
  refine J_iload_n (pc := 590) dL_law_590 rfl ?_
  refine J_iconst (pc := 591) (v := 1) dL_law_591 (by decide) ?_
  refine J_iadd (pc := 592) dL_law_592 ?_
  refine J_sld (pc := 593) h1 dL_law_593 ?_
  refine J_aload_n (pc := 594) dL_law_594 rfl ?_
  refine J_iload_n (pc := 595) dL_law_595 rfl ?_
  refine J_iconst (pc := 596) (v := 2) dL_law_596 (by decide) ?_
  refine J_iadd (pc := 597) dL_law_597 ?_
  refine J_sld (pc := 598) h2 dL_law_598 ?_
  refine J_callV (pc := 599) (o := 1000) (K' := fun q sh σ' => sh = SH ∧ (q, σ') = rI (r1, σ2)) [.int (G.2.2.2.2.2.2.2 (x3 + 1).toNatClampNeg), .int (G.2.2.2.2.2.2.2 (x3 + 2).toNatClampNeg)] lk_L_69 rfl (ci := 12) rfl hfM (w_X12_offset G 117 (G.2.2.2.2.2.2.2 (x3 + 1).toNatClampNeg) (G.2.2.2.2.2.2.2 (x3 + 2).toNatClampNeg) σ1 (r1, σ2) e2) (fun _ _ _ hk => by rw [hk.1]; rfl) (by decide) (by decide) rfl rfl (Nat.le_of_ble_eq_true rfl) dL_law_599 (fun q sh' σ' hk => ?_)
  obtain ⟨rfl, hk⟩ := hk
  cases hk
  show J G mL_law (120 + 1) 600000 7302250 SH 200 18454 602 [some (.ref G.2.2.2.2.2.1), some (.ref (G.1 + off 0)), some (.ref (G.1 + off 1000)), some (.int x3)] [.int r1, .int r1] σ2 (fun r _ _ => r = some (.int 1))
  exact J_icmp_eq (pc := 602) (tgt := 1266) dL_law_602 (by decide) (fun _ => hk0 σ2 hI2) (fun z => absurd rfl z)
set_option maxHeartbeats 4000000 in
set_option maxRecDepth 100000 in
theorem law_c13 (G : JG) {Inv : Mem → Prop} (hA : AllSteps Inv) (x3 : Int32) (h1 : vp_in (x3 + 1) G.2.2.2.2.2.2.1) (h2 : vp_in (x3 + 2) G.2.2.2.2.2.2.1) (h3 : vp_in (x3 + 3) G.2.2.2.2.2.2.1) (h4 : vp_in (x3 + 4) G.2.2.2.2.2.2.1) (h5 : vp_in (x3 + 5) G.2.2.2.2.2.2.1) (hk0 : ∀ σ, Inv σ → J G mL_law (120 + 1) 600000 7302250 SH 200 18454 1266 [some (.ref G.2.2.2.2.2.1), some (.ref (G.1 + off 0)), some (.ref (G.1 + off 1000)), some (.int x3)] [] σ (fun r _ _ => r = some (.int 1))) (σ : Mem) (hI : Inv σ) : J G mL_law (120 + 1) 600000 7302250 SH 200 18454 607 [some (.ref G.2.2.2.2.2.1), some (.ref (G.1 + off 0)), some (.ref (G.1 + off 1000)), some (.int x3)] [] σ (fun r _ _ => r = some (.int 1)) := by
  obtain ⟨fkC, hfC⟩ := shX11
  obtain ⟨fkM, hfM⟩ := shX12
  refine J_aload_n (pc := 607) dL_law_607 rfl ?_
  obtain ⟨r1, σ1, σ2, e1, e2, hI2⟩ := st_13 hA  σ hI
  refine J_callV (pc := 608) (o := 0) (K' := fun q sh σ' => sh = SH ∧ (q, σ') = rI (r1, σ1)) [] lk_L_70 rfl (ci := 11) rfl hfC (w_X11_clear G 108  σ (r1, σ1) e1) (fun _ _ _ hk => by rw [hk.1]; rfl) (by decide) (by decide) rfl rfl (Nat.le_of_ble_eq_true rfl) dL_law_608 (fun q sh' σ' hk => ?_)
  obtain ⟨rfl, hk⟩ := hk
  cases hk
  show J G mL_law (120 + 1) 600000 7302250 SH 200 18454 611 [some (.ref G.2.2.2.2.2.1), some (.ref (G.1 + off 0)), some (.ref (G.1 + off 1000)), some (.int x3)] [.int r1] σ1 (fun r _ _ => r = some (.int 1))
  refine J_aload_n (pc := 611) dL_law_611 rfl ?_
  refine J_callV (pc := 612) (o := 1000) (K' := fun q sh σ' => sh = SH ∧ (q, σ') = rI (r1, σ2)) [] lk_L_73 rfl (ci := 12) rfl hfM (w_X12_clear G 117  σ1 (r1, σ2) e2) (fun _ _ _ hk => by rw [hk.1]; rfl) (by decide) (by decide) rfl rfl (Nat.le_of_ble_eq_true rfl) dL_law_612 (fun q sh' σ' hk => ?_)
  obtain ⟨rfl, hk⟩ := hk
  cases hk
  show J G mL_law (120 + 1) 600000 7302250 SH 200 18454 615 [some (.ref G.2.2.2.2.2.1), some (.ref (G.1 + off 0)), some (.ref (G.1 + off 1000)), some (.int x3)] [.int r1, .int r1] σ2 (fun r _ _ => r = some (.int 1))
  exact J_icmp_eq (pc := 615) (tgt := 1266) dL_law_615 (by decide) (fun _ => hk0 σ2 hI2) (fun z => absurd rfl z)
set_option maxHeartbeats 4000000 in
set_option maxRecDepth 100000 in
theorem law_c14 (G : JG) {Inv : Mem → Prop} (hA : AllSteps Inv) (x3 : Int32) (h1 : vp_in (x3 + 1) G.2.2.2.2.2.2.1) (h2 : vp_in (x3 + 2) G.2.2.2.2.2.2.1) (h3 : vp_in (x3 + 3) G.2.2.2.2.2.2.1) (h4 : vp_in (x3 + 4) G.2.2.2.2.2.2.1) (h5 : vp_in (x3 + 5) G.2.2.2.2.2.2.1) (hk0 : ∀ σ, Inv σ → J G mL_law (120 + 1) 600000 7302250 SH 200 18454 1266 [some (.ref G.2.2.2.2.2.1), some (.ref (G.1 + off 0)), some (.ref (G.1 + off 1000)), some (.int x3)] [] σ (fun r _ _ => r = some (.int 1))) (σ : Mem) (hI : Inv σ) : J G mL_law (120 + 1) 600000 7302250 SH 200 18454 620 [some (.ref G.2.2.2.2.2.1), some (.ref (G.1 + off 0)), some (.ref (G.1 + off 1000)), some (.int x3)] [] σ (fun r _ _ => r = some (.int 1)) := by
  obtain ⟨fkC, hfC⟩ := shX11
  obtain ⟨fkM, hfM⟩ := shX12
  refine J_aload_n (pc := 620) dL_law_620 rfl ?_
  obtain ⟨r1, σ1, σ2, e1, e2, hI2⟩ := st_14 hA  σ hI
  refine J_callV (pc := 621) (o := 0) (K' := fun q sh σ' => sh = SH ∧ (q, σ') = rI (r1, σ1)) [] lk_L_74 rfl (ci := 11) rfl hfC (w_X11_undo G 117  σ (r1, σ1) e1) (fun _ _ _ hk => by rw [hk.1]; rfl) (by decide) (by decide) rfl rfl (Nat.le_of_ble_eq_true rfl) dL_law_621 (fun q sh' σ' hk => ?_)
  obtain ⟨rfl, hk⟩ := hk
  cases hk
  show J G mL_law (120 + 1) 600000 7302250 SH 200 18454 624 [some (.ref G.2.2.2.2.2.1), some (.ref (G.1 + off 0)), some (.ref (G.1 + off 1000)), some (.int x3)] [.int r1] σ1 (fun r _ _ => r = some (.int 1))
  refine J_aload_n (pc := 624) dL_law_624 rfl ?_
  refine J_callV (pc := 625) (o := 1000) (K' := fun q sh σ' => sh = SH ∧ (q, σ') = rI (r1, σ2)) [] lk_L_78 rfl (ci := 12) rfl hfM (w_X12_undo G 119  σ1 (r1, σ2) e2) (fun _ _ _ hk => by rw [hk.1]; rfl) (by decide) (by decide) rfl rfl (Nat.le_of_ble_eq_true rfl) dL_law_625 (fun q sh' σ' hk => ?_)
  obtain ⟨rfl, hk⟩ := hk
  cases hk
  show J G mL_law (120 + 1) 600000 7302250 SH 200 18454 628 [some (.ref G.2.2.2.2.2.1), some (.ref (G.1 + off 0)), some (.ref (G.1 + off 1000)), some (.int x3)] [.int r1, .int r1] σ2 (fun r _ _ => r = some (.int 1))
  exact J_icmp_eq (pc := 628) (tgt := 1266) dL_law_628 (by decide) (fun _ => hk0 σ2 hI2) (fun z => absurd rfl z)
set_option maxHeartbeats 4000000 in
set_option maxRecDepth 100000 in
theorem law_c15 (G : JG) {Inv : Mem → Prop} (hA : AllSteps Inv) (x3 : Int32) (h1 : vp_in (x3 + 1) G.2.2.2.2.2.2.1) (h2 : vp_in (x3 + 2) G.2.2.2.2.2.2.1) (h3 : vp_in (x3 + 3) G.2.2.2.2.2.2.1) (h4 : vp_in (x3 + 4) G.2.2.2.2.2.2.1) (h5 : vp_in (x3 + 5) G.2.2.2.2.2.2.1) (hk0 : ∀ σ, Inv σ → J G mL_law (120 + 1) 600000 7302250 SH 200 18454 1266 [some (.ref G.2.2.2.2.2.1), some (.ref (G.1 + off 0)), some (.ref (G.1 + off 1000)), some (.int x3)] [] σ (fun r _ _ => r = some (.int 1))) (σ : Mem) (hI : Inv σ) : J G mL_law (120 + 1) 600000 7302250 SH 200 18454 633 [some (.ref G.2.2.2.2.2.1), some (.ref (G.1 + off 0)), some (.ref (G.1 + off 1000)), some (.int x3)] [] σ (fun r _ _ => r = some (.int 1)) := by
  obtain ⟨fkC, hfC⟩ := shX11
  obtain ⟨fkM, hfM⟩ := shX12
  refine J_aload_n (pc := 633) dL_law_633 rfl ?_
  obtain ⟨r1, σ1, σ2, e1, e2, hI2⟩ := st_15 hA  σ hI
  refine J_callV (pc := 634) (o := 0) (K' := fun q sh σ' => sh = SH ∧ (q, σ') = rI (r1, σ1)) [] lk_L_79 rfl (ci := 11) rfl hfC (w_X11_redo G 117  σ (r1, σ1) e1) (fun _ _ _ hk => by rw [hk.1]; rfl) (by decide) (by decide) rfl rfl (Nat.le_of_ble_eq_true rfl) dL_law_634 (fun q sh' σ' hk => ?_)
  obtain ⟨rfl, hk⟩ := hk
  cases hk
  show J G mL_law (120 + 1) 600000 7302250 SH 200 18454 637 [some (.ref G.2.2.2.2.2.1), some (.ref (G.1 + off 0)), some (.ref (G.1 + off 1000)), some (.int x3)] [.int r1] σ1 (fun r _ _ => r = some (.int 1))
  refine J_aload_n (pc := 637) dL_law_637 rfl ?_
  refine J_callV (pc := 638) (o := 1000) (K' := fun q sh σ' => sh = SH ∧ (q, σ') = rI (r1, σ2)) [] lk_L_82 rfl (ci := 12) rfl hfM (w_X12_redo G 119  σ1 (r1, σ2) e2) (fun _ _ _ hk => by rw [hk.1]; rfl) (by decide) (by decide) rfl rfl (Nat.le_of_ble_eq_true rfl) dL_law_638 (fun q sh' σ' hk => ?_)
  obtain ⟨rfl, hk⟩ := hk
  cases hk
  show J G mL_law (120 + 1) 600000 7302250 SH 200 18454 641 [some (.ref G.2.2.2.2.2.1), some (.ref (G.1 + off 0)), some (.ref (G.1 + off 1000)), some (.int x3)] [.int r1, .int r1] σ2 (fun r _ _ => r = some (.int 1))
  exact J_icmp_eq (pc := 641) (tgt := 1266) dL_law_641 (by decide) (fun _ => hk0 σ2 hI2) (fun z => absurd rfl z)
set_option maxHeartbeats 4000000 in
set_option maxRecDepth 100000 in
theorem law_c16 (G : JG) {Inv : Mem → Prop} (hA : AllSteps Inv) (x3 : Int32) (h1 : vp_in (x3 + 1) G.2.2.2.2.2.2.1) (h2 : vp_in (x3 + 2) G.2.2.2.2.2.2.1) (h3 : vp_in (x3 + 3) G.2.2.2.2.2.2.1) (h4 : vp_in (x3 + 4) G.2.2.2.2.2.2.1) (h5 : vp_in (x3 + 5) G.2.2.2.2.2.2.1) (hk0 : ∀ σ, Inv σ → J G mL_law (120 + 1) 600000 7302250 SH 200 18454 1266 [some (.ref G.2.2.2.2.2.1), some (.ref (G.1 + off 0)), some (.ref (G.1 + off 1000)), some (.int x3)] [] σ (fun r _ _ => r = some (.int 1))) (σ : Mem) (hI : Inv σ) : J G mL_law (120 + 1) 600000 7302250 SH 200 18454 646 [some (.ref G.2.2.2.2.2.1), some (.ref (G.1 + off 0)), some (.ref (G.1 + off 1000)), some (.int x3)] [] σ (fun r _ _ => r = some (.int 1)) := by
  obtain ⟨fkC, hfC⟩ := shX11
  obtain ⟨fkM, hfM⟩ := shX12
  refine J_aload_n (pc := 646) dL_law_646 rfl ?_
  refine J_aload_n (pc := 647) dL_law_647 rfl ?_
  refine J_iload_n (pc := 648) dL_law_648 rfl ?_
  refine J_iconst (pc := 649) (v := 1) dL_law_649 (by decide) ?_
  refine J_iadd (pc := 650) dL_law_650 ?_
  refine J_sld (pc := 651) h1 dL_law_651 ?_
  refine J_aload_n (pc := 652) dL_law_652 rfl ?_
  refine J_iload_n (pc := 653) dL_law_653 rfl ?_
  refine J_iconst (pc := 654) (v := 2) dL_law_654 (by decide) ?_
  refine J_iadd (pc := 655) dL_law_655 ?_
  refine J_sld (pc := 656) h2 dL_law_656 ?_
  refine J_aload_n (pc := 657) dL_law_657 rfl ?_
  refine J_iload_n (pc := 658) dL_law_658 rfl ?_
  refine J_iconst (pc := 659) (v := 3) dL_law_659 (by decide) ?_
  refine J_iadd (pc := 660) dL_law_660 ?_
  refine J_sld (pc := 661) h3 dL_law_661 ?_
  obtain ⟨r1, σ1, σ2, e1, e2, hI2⟩ := st_16 hA (G.2.2.2.2.2.2.2 (x3 + 1).toNatClampNeg) (G.2.2.2.2.2.2.2 (x3 + 2).toNatClampNeg) (G.2.2.2.2.2.2.2 (x3 + 3).toNatClampNeg) σ hI
  refine J_callV (pc := 662) (o := 0) (K' := fun q sh σ' => sh = SH ∧ (q, σ') = rI (r1, σ1)) [.int (G.2.2.2.2.2.2.2 (x3 + 1).toNatClampNeg), .int (G.2.2.2.2.2.2.2 (x3 + 2).toNatClampNeg), .int (G.2.2.2.2.2.2.2 (x3 + 3).toNatClampNeg)] lk_L_83 rfl (ci := 11) rfl hfC (w_X11_will G 114 (G.2.2.2.2.2.2.2 (x3 + 1).toNatClampNeg) (G.2.2.2.2.2.2.2 (x3 + 2).toNatClampNeg) (G.2.2.2.2.2.2.2 (x3 + 3).toNatClampNeg) σ (r1, σ1) e1) (fun _ _ _ hk => by rw [hk.1]; rfl) (by decide) (by decide) rfl rfl (Nat.le_of_ble_eq_true rfl) dL_law_662 (fun q sh' σ' hk => ?_)
  obtain ⟨rfl, hk⟩ := hk
  cases hk
  show J G mL_law (120 + 1) 600000 7302250 SH 200 18454 665 [some (.ref G.2.2.2.2.2.1), some (.ref (G.1 + off 0)), some (.ref (G.1 + off 1000)), some (.int x3)] [.int r1] σ1 (fun r _ _ => r = some (.int 1))
  refine J_aload_n (pc := 665) dL_law_665 rfl ?_
  refine J_aload_n (pc := 666) dL_law_666 rfl ?_
  refine J_iload_n (pc := 667) dL_law_667 rfl ?_
  refine J_iconst (pc := 668) (v := 1) dL_law_668 (by decide) ?_
  refine J_iadd (pc := 669) dL_law_669 ?_
  refine J_sld (pc := 670) h1 dL_law_670 ?_
  refine J_aload_n (pc := 671) dL_law_671 rfl ?_
  refine J_iload_n (pc := 672) dL_law_672 rfl ?_
  refine J_iconst (pc := 673) (v := 2) dL_law_673 (by decide) ?_
  refine J_iadd (pc := 674) dL_law_674 ?_
  refine J_sld (pc := 675) h2 dL_law_675 ?_
  refine J_aload_n (pc := 676) dL_law_676 rfl ?_
  refine J_iload_n (pc := 677) dL_law_677 rfl ?_
  refine J_iconst (pc := 678) (v := 3) dL_law_678 (by decide) ?_
  refine J_iadd (pc := 679) dL_law_679 ?_
  refine J_sld (pc := 680) h3 dL_law_680 ?_
  refine J_callV (pc := 681) (o := 1000) (K' := fun q sh σ' => sh = SH ∧ (q, σ') = rI (r1, σ2)) [.int (G.2.2.2.2.2.2.2 (x3 + 1).toNatClampNeg), .int (G.2.2.2.2.2.2.2 (x3 + 2).toNatClampNeg), .int (G.2.2.2.2.2.2.2 (x3 + 3).toNatClampNeg)] lk_L_87 rfl (ci := 12) rfl hfM (w_X12_will G 113 (G.2.2.2.2.2.2.2 (x3 + 1).toNatClampNeg) (G.2.2.2.2.2.2.2 (x3 + 2).toNatClampNeg) (G.2.2.2.2.2.2.2 (x3 + 3).toNatClampNeg) σ1 (r1, σ2) e2) (fun _ _ _ hk => by rw [hk.1]; rfl) (by decide) (by decide) rfl rfl (Nat.le_of_ble_eq_true rfl) dL_law_681 (fun q sh' σ' hk => ?_)
  obtain ⟨rfl, hk⟩ := hk
  cases hk
  show J G mL_law (120 + 1) 600000 7302250 SH 200 18454 684 [some (.ref G.2.2.2.2.2.1), some (.ref (G.1 + off 0)), some (.ref (G.1 + off 1000)), some (.int x3)] [.int r1, .int r1] σ2 (fun r _ _ => r = some (.int 1))
  exact J_icmp_eq (pc := 684) (tgt := 1266) dL_law_684 (by decide) (fun _ => hk0 σ2 hI2) (fun z => absurd rfl z)
set_option maxHeartbeats 4000000 in
set_option maxRecDepth 100000 in
theorem law_c17 (G : JG) {Inv : Mem → Prop} (hA : AllSteps Inv) (x3 : Int32) (h1 : vp_in (x3 + 1) G.2.2.2.2.2.2.1) (h2 : vp_in (x3 + 2) G.2.2.2.2.2.2.1) (h3 : vp_in (x3 + 3) G.2.2.2.2.2.2.1) (h4 : vp_in (x3 + 4) G.2.2.2.2.2.2.1) (h5 : vp_in (x3 + 5) G.2.2.2.2.2.2.1) (hk0 : ∀ σ, Inv σ → J G mL_law (120 + 1) 600000 7302250 SH 200 18454 1266 [some (.ref G.2.2.2.2.2.1), some (.ref (G.1 + off 0)), some (.ref (G.1 + off 1000)), some (.int x3)] [] σ (fun r _ _ => r = some (.int 1))) (σ : Mem) (hI : Inv σ) : J G mL_law (120 + 1) 600000 7302250 SH 200 18454 689 [some (.ref G.2.2.2.2.2.1), some (.ref (G.1 + off 0)), some (.ref (G.1 + off 1000)), some (.int x3)] [] σ (fun r _ _ => r = some (.int 1)) := by
  obtain ⟨fkC, hfC⟩ := shX11
  obtain ⟨fkM, hfM⟩ := shX12
  refine J_aload_n (pc := 689) dL_law_689 rfl ?_
  refine J_aload_n (pc := 690) dL_law_690 rfl ?_
  refine J_iload_n (pc := 691) dL_law_691 rfl ?_
  refine J_iconst (pc := 692) (v := 1) dL_law_692 (by decide) ?_
  refine J_iadd (pc := 693) dL_law_693 ?_
  refine J_sld (pc := 694) h1 dL_law_694 ?_
  refine J_aload_n (pc := 695) dL_law_695 rfl ?_
  refine J_iload_n (pc := 696) dL_law_696 rfl ?_
  refine J_iconst (pc := 697) (v := 2) dL_law_697 (by decide) ?_
  refine J_iadd (pc := 698) dL_law_698 ?_
  refine J_sld (pc := 699) h2 dL_law_699 ?_
  obtain ⟨r1, σ1, σ2, e1, e2, hI2⟩ := st_17 hA (G.2.2.2.2.2.2.2 (x3 + 1).toNatClampNeg) (G.2.2.2.2.2.2.2 (x3 + 2).toNatClampNeg) σ hI
  refine J_callV (pc := 700) (o := 0) (K' := fun q sh σ' => sh = SH ∧ (q, σ') = rI (r1, σ1)) [.int (G.2.2.2.2.2.2.2 (x3 + 1).toNatClampNeg), .int (G.2.2.2.2.2.2.2 (x3 + 2).toNatClampNeg)] lk_L_88 rfl (ci := 11) rfl hfC (w_X11_when G 114 (G.2.2.2.2.2.2.2 (x3 + 1).toNatClampNeg) (G.2.2.2.2.2.2.2 (x3 + 2).toNatClampNeg) σ (r1, σ1) e1) (fun _ _ _ hk => by rw [hk.1]; rfl) (by decide) (by decide) rfl rfl (Nat.le_of_ble_eq_true rfl) dL_law_700 (fun q sh' σ' hk => ?_)
  obtain ⟨rfl, hk⟩ := hk
  cases hk
  show J G mL_law (120 + 1) 600000 7302250 SH 200 18454 703 [some (.ref G.2.2.2.2.2.1), some (.ref (G.1 + off 0)), some (.ref (G.1 + off 1000)), some (.int x3)] [.int r1] σ1 (fun r _ _ => r = some (.int 1))
  refine J_aload_n (pc := 703) dL_law_703 rfl ?_
  refine J_aload_n (pc := 704) dL_law_704 rfl ?_
  refine J_iload_n (pc := 705) dL_law_705 rfl ?_
  refine J_iconst (pc := 706) (v := 1) dL_law_706 (by decide) ?_
  refine J_iadd (pc := 707) dL_law_707 ?_
  refine J_sld (pc := 708) h1 dL_law_708 ?_
  refine J_aload_n (pc := 709) dL_law_709 rfl ?_
  refine J_iload_n (pc := 710) dL_law_710 rfl ?_
  refine J_iconst (pc := 711) (v := 2) dL_law_711 (by decide) ?_
  refine J_iadd (pc := 712) dL_law_712 ?_
  refine J_sld (pc := 713) h2 dL_law_713 ?_
  refine J_callV (pc := 714) (o := 1000) (K' := fun q sh σ' => sh = SH ∧ (q, σ') = rI (r1, σ2)) [.int (G.2.2.2.2.2.2.2 (x3 + 1).toNatClampNeg), .int (G.2.2.2.2.2.2.2 (x3 + 2).toNatClampNeg)] lk_L_91 rfl (ci := 12) rfl hfM (w_X12_when G 113 (G.2.2.2.2.2.2.2 (x3 + 1).toNatClampNeg) (G.2.2.2.2.2.2.2 (x3 + 2).toNatClampNeg) σ1 (r1, σ2) e2) (fun _ _ _ hk => by rw [hk.1]; rfl) (by decide) (by decide) rfl rfl (Nat.le_of_ble_eq_true rfl) dL_law_714 (fun q sh' σ' hk => ?_)
  obtain ⟨rfl, hk⟩ := hk
  cases hk
  show J G mL_law (120 + 1) 600000 7302250 SH 200 18454 717 [some (.ref G.2.2.2.2.2.1), some (.ref (G.1 + off 0)), some (.ref (G.1 + off 1000)), some (.int x3)] [.int r1, .int r1] σ2 (fun r _ _ => r = some (.int 1))
  exact J_icmp_eq (pc := 717) (tgt := 1266) dL_law_717 (by decide) (fun _ => hk0 σ2 hI2) (fun z => absurd rfl z)
set_option maxHeartbeats 4000000 in
set_option maxRecDepth 100000 in
theorem law_c18 (G : JG) {Inv : Mem → Prop} (hA : AllSteps Inv) (x3 : Int32) (h1 : vp_in (x3 + 1) G.2.2.2.2.2.2.1) (h2 : vp_in (x3 + 2) G.2.2.2.2.2.2.1) (h3 : vp_in (x3 + 3) G.2.2.2.2.2.2.1) (h4 : vp_in (x3 + 4) G.2.2.2.2.2.2.1) (h5 : vp_in (x3 + 5) G.2.2.2.2.2.2.1) (hk0 : ∀ σ, Inv σ → J G mL_law (120 + 1) 600000 7302250 SH 200 18454 1266 [some (.ref G.2.2.2.2.2.1), some (.ref (G.1 + off 0)), some (.ref (G.1 + off 1000)), some (.int x3)] [] σ (fun r _ _ => r = some (.int 1))) (σ : Mem) (hI : Inv σ) : J G mL_law (120 + 1) 600000 7302250 SH 200 18454 722 [some (.ref G.2.2.2.2.2.1), some (.ref (G.1 + off 0)), some (.ref (G.1 + off 1000)), some (.int x3)] [] σ (fun r _ _ => r = some (.int 1)) := by
  obtain ⟨fkC, hfC⟩ := shX11
  obtain ⟨fkM, hfM⟩ := shX12
  refine J_aload_n (pc := 722) dL_law_722 rfl ?_
  refine J_aload_n (pc := 723) dL_law_723 rfl ?_
  refine J_iload_n (pc := 724) dL_law_724 rfl ?_
  refine J_iconst (pc := 725) (v := 1) dL_law_725 (by decide) ?_
  refine J_iadd (pc := 726) dL_law_726 ?_
  refine J_sld (pc := 727) h1 dL_law_727 ?_
  refine J_aload_n (pc := 728) dL_law_728 rfl ?_
  refine J_iload_n (pc := 729) dL_law_729 rfl ?_
  refine J_iconst (pc := 730) (v := 2) dL_law_730 (by decide) ?_
  refine J_iadd (pc := 731) dL_law_731 ?_
  refine J_sld (pc := 732) h2 dL_law_732 ?_
  refine J_aload_n (pc := 733) dL_law_733 rfl ?_
  refine J_iload_n (pc := 734) dL_law_734 rfl ?_
  refine J_iconst (pc := 735) (v := 3) dL_law_735 (by decide) ?_
  refine J_iadd (pc := 736) dL_law_736 ?_
  refine J_sld (pc := 737) h3 dL_law_737 ?_
  obtain ⟨r1, σ1, σ2, e1, e2, hI2⟩ := st_18 hA (G.2.2.2.2.2.2.2 (x3 + 1).toNatClampNeg) (G.2.2.2.2.2.2.2 (x3 + 2).toNatClampNeg) (G.2.2.2.2.2.2.2 (x3 + 3).toNatClampNeg) σ hI
  refine J_callV (pc := 738) (o := 0) (K' := fun q sh σ' => sh = SH ∧ (q, σ') = rI (r1, σ1)) [.int (G.2.2.2.2.2.2.2 (x3 + 1).toNatClampNeg), .int (G.2.2.2.2.2.2.2 (x3 + 2).toNatClampNeg), .int (G.2.2.2.2.2.2.2 (x3 + 3).toNatClampNeg)] lk_L_92 rfl (ci := 11) rfl hfC (w_X11_throng G 115 (G.2.2.2.2.2.2.2 (x3 + 1).toNatClampNeg) (G.2.2.2.2.2.2.2 (x3 + 2).toNatClampNeg) (G.2.2.2.2.2.2.2 (x3 + 3).toNatClampNeg) σ (r1, σ1) e1) (fun _ _ _ hk => by rw [hk.1]; rfl) (by decide) (by decide) rfl rfl (Nat.le_of_ble_eq_true rfl) dL_law_738 (fun q sh' σ' hk => ?_)
  obtain ⟨rfl, hk⟩ := hk
  cases hk
  show J G mL_law (120 + 1) 600000 7302250 SH 200 18454 741 [some (.ref G.2.2.2.2.2.1), some (.ref (G.1 + off 0)), some (.ref (G.1 + off 1000)), some (.int x3)] [.int r1] σ1 (fun r _ _ => r = some (.int 1))
  refine J_aload_n (pc := 741) dL_law_741 rfl ?_
  refine J_aload_n (pc := 742) dL_law_742 rfl ?_
  refine J_iload_n (pc := 743) dL_law_743 rfl ?_
  refine J_iconst (pc := 744) (v := 1) dL_law_744 (by decide) ?_
  refine J_iadd (pc := 745) dL_law_745 ?_
  refine J_sld (pc := 746) h1 dL_law_746 ?_
  refine J_aload_n (pc := 747) dL_law_747 rfl ?_
  refine J_iload_n (pc := 748) dL_law_748 rfl ?_
  refine J_iconst (pc := 749) (v := 2) dL_law_749 (by decide) ?_
  refine J_iadd (pc := 750) dL_law_750 ?_
  refine J_sld (pc := 751) h2 dL_law_751 ?_
  refine J_aload_n (pc := 752) dL_law_752 rfl ?_
  refine J_iload_n (pc := 753) dL_law_753 rfl ?_
  refine J_iconst (pc := 754) (v := 3) dL_law_754 (by decide) ?_
  refine J_iadd (pc := 755) dL_law_755 ?_
  refine J_sld (pc := 756) h3 dL_law_756 ?_
  refine J_callV (pc := 757) (o := 1000) (K' := fun q sh σ' => sh = SH ∧ (q, σ') = rI (r1, σ2)) [.int (G.2.2.2.2.2.2.2 (x3 + 1).toNatClampNeg), .int (G.2.2.2.2.2.2.2 (x3 + 2).toNatClampNeg), .int (G.2.2.2.2.2.2.2 (x3 + 3).toNatClampNeg)] lk_L_95 rfl (ci := 12) rfl hfM (w_X12_throng G 114 (G.2.2.2.2.2.2.2 (x3 + 1).toNatClampNeg) (G.2.2.2.2.2.2.2 (x3 + 2).toNatClampNeg) (G.2.2.2.2.2.2.2 (x3 + 3).toNatClampNeg) σ1 (r1, σ2) e2) (fun _ _ _ hk => by rw [hk.1]; rfl) (by decide) (by decide) rfl rfl (Nat.le_of_ble_eq_true rfl) dL_law_757 (fun q sh' σ' hk => ?_)
  obtain ⟨rfl, hk⟩ := hk
  cases hk
  show J G mL_law (120 + 1) 600000 7302250 SH 200 18454 760 [some (.ref G.2.2.2.2.2.1), some (.ref (G.1 + off 0)), some (.ref (G.1 + off 1000)), some (.int x3)] [.int r1, .int r1] σ2 (fun r _ _ => r = some (.int 1))
  exact J_icmp_eq (pc := 760) (tgt := 1266) dL_law_760 (by decide) (fun _ => hk0 σ2 hI2) (fun z => absurd rfl z)
set_option maxHeartbeats 4000000 in
set_option maxRecDepth 100000 in
theorem law_c19 (G : JG) {Inv : Mem → Prop} (hA : AllSteps Inv) (x3 : Int32) (h1 : vp_in (x3 + 1) G.2.2.2.2.2.2.1) (h2 : vp_in (x3 + 2) G.2.2.2.2.2.2.1) (h3 : vp_in (x3 + 3) G.2.2.2.2.2.2.1) (h4 : vp_in (x3 + 4) G.2.2.2.2.2.2.1) (h5 : vp_in (x3 + 5) G.2.2.2.2.2.2.1) (hk0 : ∀ σ, Inv σ → J G mL_law (120 + 1) 600000 7302250 SH 200 18454 1266 [some (.ref G.2.2.2.2.2.1), some (.ref (G.1 + off 0)), some (.ref (G.1 + off 1000)), some (.int x3)] [] σ (fun r _ _ => r = some (.int 1))) (σ : Mem) (hI : Inv σ) : J G mL_law (120 + 1) 600000 7302250 SH 200 18454 765 [some (.ref G.2.2.2.2.2.1), some (.ref (G.1 + off 0)), some (.ref (G.1 + off 1000)), some (.int x3)] [] σ (fun r _ _ => r = some (.int 1)) := by
  obtain ⟨fkC, hfC⟩ := shX11
  obtain ⟨fkM, hfM⟩ := shX12
  refine J_aload_n (pc := 765) dL_law_765 rfl ?_
  refine J_aload_n (pc := 766) dL_law_766 rfl ?_
  refine J_iload_n (pc := 767) dL_law_767 rfl ?_
  refine J_iconst (pc := 768) (v := 1) dL_law_768 (by decide) ?_
  refine J_iadd (pc := 769) dL_law_769 ?_
  refine J_sld (pc := 770) h1 dL_law_770 ?_
  refine J_aload_n (pc := 771) dL_law_771 rfl ?_
  refine J_iload_n (pc := 772) dL_law_772 rfl ?_
  refine J_iconst (pc := 773) (v := 2) dL_law_773 (by decide) ?_
  refine J_iadd (pc := 774) dL_law_774 ?_
  refine J_sld (pc := 775) h2 dL_law_775 ?_
  refine J_aload_n (pc := 776) dL_law_776 rfl ?_
  refine J_iload_n (pc := 777) dL_law_777 rfl ?_
  refine J_iconst (pc := 778) (v := 3) dL_law_778 (by decide) ?_
  refine J_iadd (pc := 779) dL_law_779 ?_
  refine J_sld (pc := 780) h3 dL_law_780 ?_
  obtain ⟨r1, σ1, σ2, e1, e2, hI2⟩ := st_19 hA (G.2.2.2.2.2.2.2 (x3 + 1).toNatClampNeg) (G.2.2.2.2.2.2.2 (x3 + 2).toNatClampNeg) (G.2.2.2.2.2.2.2 (x3 + 3).toNatClampNeg) σ hI
  refine J_callV (pc := 781) (o := 0) (K' := fun q sh σ' => sh = SH ∧ (q, σ') = rI (r1, σ1)) [.int (G.2.2.2.2.2.2.2 (x3 + 1).toNatClampNeg), .int (G.2.2.2.2.2.2.2 (x3 + 2).toNatClampNeg), .int (G.2.2.2.2.2.2.2 (x3 + 3).toNatClampNeg)] lk_L_96 rfl (ci := 11) rfl hfC (w_X11_meeting G 115 (G.2.2.2.2.2.2.2 (x3 + 1).toNatClampNeg) (G.2.2.2.2.2.2.2 (x3 + 2).toNatClampNeg) (G.2.2.2.2.2.2.2 (x3 + 3).toNatClampNeg) σ (r1, σ1) e1) (fun _ _ _ hk => by rw [hk.1]; rfl) (by decide) (by decide) rfl rfl (Nat.le_of_ble_eq_true rfl) dL_law_781 (fun q sh' σ' hk => ?_)
  obtain ⟨rfl, hk⟩ := hk
  cases hk
  show J G mL_law (120 + 1) 600000 7302250 SH 200 18454 784 [some (.ref G.2.2.2.2.2.1), some (.ref (G.1 + off 0)), some (.ref (G.1 + off 1000)), some (.int x3)] [.int r1] σ1 (fun r _ _ => r = some (.int 1))
  refine J_aload_n (pc := 784) dL_law_784 rfl ?_
  refine J_aload_n (pc := 785) dL_law_785 rfl ?_
  refine J_iload_n (pc := 786) dL_law_786 rfl ?_
  refine J_iconst (pc := 787) (v := 1) dL_law_787 (by decide) ?_
  refine J_iadd (pc := 788) dL_law_788 ?_
  refine J_sld (pc := 789) h1 dL_law_789 ?_
  refine J_aload_n (pc := 790) dL_law_790 rfl ?_
  refine J_iload_n (pc := 791) dL_law_791 rfl ?_
  refine J_iconst (pc := 792) (v := 2) dL_law_792 (by decide) ?_
  refine J_iadd (pc := 793) dL_law_793 ?_
  refine J_sld (pc := 794) h2 dL_law_794 ?_
  refine J_aload_n (pc := 795) dL_law_795 rfl ?_
  refine J_iload_n (pc := 796) dL_law_796 rfl ?_
  refine J_iconst (pc := 797) (v := 3) dL_law_797 (by decide) ?_
  refine J_iadd (pc := 798) dL_law_798 ?_
  refine J_sld (pc := 799) h3 dL_law_799 ?_
  refine J_callV (pc := 800) (o := 1000) (K' := fun q sh σ' => sh = SH ∧ (q, σ') = rI (r1, σ2)) [.int (G.2.2.2.2.2.2.2 (x3 + 1).toNatClampNeg), .int (G.2.2.2.2.2.2.2 (x3 + 2).toNatClampNeg), .int (G.2.2.2.2.2.2.2 (x3 + 3).toNatClampNeg)] lk_L_99 rfl (ci := 12) rfl hfM (w_X12_meeting G 114 (G.2.2.2.2.2.2.2 (x3 + 1).toNatClampNeg) (G.2.2.2.2.2.2.2 (x3 + 2).toNatClampNeg) (G.2.2.2.2.2.2.2 (x3 + 3).toNatClampNeg) σ1 (r1, σ2) e2) (fun _ _ _ hk => by rw [hk.1]; rfl) (by decide) (by decide) rfl rfl (Nat.le_of_ble_eq_true rfl) dL_law_800 (fun q sh' σ' hk => ?_)
  obtain ⟨rfl, hk⟩ := hk
  cases hk
  show J G mL_law (120 + 1) 600000 7302250 SH 200 18454 803 [some (.ref G.2.2.2.2.2.1), some (.ref (G.1 + off 0)), some (.ref (G.1 + off 1000)), some (.int x3)] [.int r1, .int r1] σ2 (fun r _ _ => r = some (.int 1))
  exact J_icmp_eq (pc := 803) (tgt := 1266) dL_law_803 (by decide) (fun _ => hk0 σ2 hI2) (fun z => absurd rfl z)
set_option maxHeartbeats 4000000 in
set_option maxRecDepth 100000 in
theorem law_c20 (G : JG) {Inv : Mem → Prop} (hA : AllSteps Inv) (x3 : Int32) (h1 : vp_in (x3 + 1) G.2.2.2.2.2.2.1) (h2 : vp_in (x3 + 2) G.2.2.2.2.2.2.1) (h3 : vp_in (x3 + 3) G.2.2.2.2.2.2.1) (h4 : vp_in (x3 + 4) G.2.2.2.2.2.2.1) (h5 : vp_in (x3 + 5) G.2.2.2.2.2.2.1) (hk0 : ∀ σ, Inv σ → J G mL_law (120 + 1) 600000 7302250 SH 200 18454 1266 [some (.ref G.2.2.2.2.2.1), some (.ref (G.1 + off 0)), some (.ref (G.1 + off 1000)), some (.int x3)] [] σ (fun r _ _ => r = some (.int 1))) (σ : Mem) (hI : Inv σ) : J G mL_law (120 + 1) 600000 7302250 SH 200 18454 808 [some (.ref G.2.2.2.2.2.1), some (.ref (G.1 + off 0)), some (.ref (G.1 + off 1000)), some (.int x3)] [] σ (fun r _ _ => r = some (.int 1)) := by
  obtain ⟨fkC, hfC⟩ := shX11
  obtain ⟨fkM, hfM⟩ := shX12
  refine J_aload_n (pc := 808) dL_law_808 rfl ?_
  refine J_aload_n (pc := 809) dL_law_809 rfl ?_
  refine J_iload_n (pc := 810) dL_law_810 rfl ?_
  refine J_iconst (pc := 811) (v := 1) dL_law_811 (by decide) ?_
  refine J_iadd (pc := 812) dL_law_812 ?_
  refine J_sld (pc := 813) h1 dL_law_813 ?_
  refine J_aload_n (pc := 814) dL_law_814 rfl ?_
  refine J_iload_n (pc := 815) dL_law_815 rfl ?_
  refine J_iconst (pc := 816) (v := 2) dL_law_816 (by decide) ?_
  refine J_iadd (pc := 817) dL_law_817 ?_
  refine J_sld (pc := 818) h2 dL_law_818 ?_
  refine J_aload_n (pc := 819) dL_law_819 rfl ?_
  refine J_iload_n (pc := 820) dL_law_820 rfl ?_
  refine J_iconst (pc := 821) (v := 3) dL_law_821 (by decide) ?_
  refine J_iadd (pc := 822) dL_law_822 ?_
  refine J_sld (pc := 823) h3 dL_law_823 ?_
  obtain ⟨r1, σ1, σ2, e1, e2, hI2⟩ := st_20 hA (G.2.2.2.2.2.2.2 (x3 + 1).toNatClampNeg) (G.2.2.2.2.2.2.2 (x3 + 2).toNatClampNeg) (G.2.2.2.2.2.2.2 (x3 + 3).toNatClampNeg) σ hI
  refine J_callV (pc := 824) (o := 0) (K' := fun q sh σ' => sh = SH ∧ (q, σ') = rI (r1, σ1)) [.int (G.2.2.2.2.2.2.2 (x3 + 1).toNatClampNeg), .int (G.2.2.2.2.2.2.2 (x3 + 2).toNatClampNeg), .int (G.2.2.2.2.2.2.2 (x3 + 3).toNatClampNeg)] lk_L_100 rfl (ci := 11) rfl hfC (w_X11_help G 114 (G.2.2.2.2.2.2.2 (x3 + 1).toNatClampNeg) (G.2.2.2.2.2.2.2 (x3 + 2).toNatClampNeg) (G.2.2.2.2.2.2.2 (x3 + 3).toNatClampNeg) σ (r1, σ1) e1) (fun _ _ _ hk => by rw [hk.1]; rfl) (by decide) (by decide) rfl rfl (Nat.le_of_ble_eq_true rfl) dL_law_824 (fun q sh' σ' hk => ?_)
  obtain ⟨rfl, hk⟩ := hk
  cases hk
  show J G mL_law (120 + 1) 600000 7302250 SH 200 18454 827 [some (.ref G.2.2.2.2.2.1), some (.ref (G.1 + off 0)), some (.ref (G.1 + off 1000)), some (.int x3)] [.int r1] σ1 (fun r _ _ => r = some (.int 1))
  refine J_aload_n (pc := 827) dL_law_827 rfl ?_
  refine J_aload_n (pc := 828) dL_law_828 rfl ?_
  refine J_iload_n (pc := 829) dL_law_829 rfl ?_
  refine J_iconst (pc := 830) (v := 1) dL_law_830 (by decide) ?_
  refine J_iadd (pc := 831) dL_law_831 ?_
  refine J_sld (pc := 832) h1 dL_law_832 ?_
  refine J_aload_n (pc := 833) dL_law_833 rfl ?_
  refine J_iload_n (pc := 834) dL_law_834 rfl ?_
  refine J_iconst (pc := 835) (v := 2) dL_law_835 (by decide) ?_
  refine J_iadd (pc := 836) dL_law_836 ?_
  refine J_sld (pc := 837) h2 dL_law_837 ?_
  refine J_aload_n (pc := 838) dL_law_838 rfl ?_
  refine J_iload_n (pc := 839) dL_law_839 rfl ?_
  refine J_iconst (pc := 840) (v := 3) dL_law_840 (by decide) ?_
  refine J_iadd (pc := 841) dL_law_841 ?_
  refine J_sld (pc := 842) h3 dL_law_842 ?_
  refine J_callV (pc := 843) (o := 1000) (K' := fun q sh σ' => sh = SH ∧ (q, σ') = rI (r1, σ2)) [.int (G.2.2.2.2.2.2.2 (x3 + 1).toNatClampNeg), .int (G.2.2.2.2.2.2.2 (x3 + 2).toNatClampNeg), .int (G.2.2.2.2.2.2.2 (x3 + 3).toNatClampNeg)] lk_L_103 rfl (ci := 12) rfl hfM (w_X12_help G 113 (G.2.2.2.2.2.2.2 (x3 + 1).toNatClampNeg) (G.2.2.2.2.2.2.2 (x3 + 2).toNatClampNeg) (G.2.2.2.2.2.2.2 (x3 + 3).toNatClampNeg) σ1 (r1, σ2) e2) (fun _ _ _ hk => by rw [hk.1]; rfl) (by decide) (by decide) rfl rfl (Nat.le_of_ble_eq_true rfl) dL_law_843 (fun q sh' σ' hk => ?_)
  obtain ⟨rfl, hk⟩ := hk
  cases hk
  show J G mL_law (120 + 1) 600000 7302250 SH 200 18454 846 [some (.ref G.2.2.2.2.2.1), some (.ref (G.1 + off 0)), some (.ref (G.1 + off 1000)), some (.int x3)] [.int r1, .int r1] σ2 (fun r _ _ => r = some (.int 1))
  exact J_icmp_eq (pc := 846) (tgt := 1266) dL_law_846 (by decide) (fun _ => hk0 σ2 hI2) (fun z => absurd rfl z)
set_option maxHeartbeats 4000000 in
set_option maxRecDepth 100000 in
theorem law_c21 (G : JG) {Inv : Mem → Prop} (hA : AllSteps Inv) (x3 : Int32) (h1 : vp_in (x3 + 1) G.2.2.2.2.2.2.1) (h2 : vp_in (x3 + 2) G.2.2.2.2.2.2.1) (h3 : vp_in (x3 + 3) G.2.2.2.2.2.2.1) (h4 : vp_in (x3 + 4) G.2.2.2.2.2.2.1) (h5 : vp_in (x3 + 5) G.2.2.2.2.2.2.1) (hk0 : ∀ σ, Inv σ → J G mL_law (120 + 1) 600000 7302250 SH 200 18454 1266 [some (.ref G.2.2.2.2.2.1), some (.ref (G.1 + off 0)), some (.ref (G.1 + off 1000)), some (.int x3)] [] σ (fun r _ _ => r = some (.int 1))) (σ : Mem) (hI : Inv σ) : J G mL_law (120 + 1) 600000 7302250 SH 200 18454 851 [some (.ref G.2.2.2.2.2.1), some (.ref (G.1 + off 0)), some (.ref (G.1 + off 1000)), some (.int x3)] [] σ (fun r _ _ => r = some (.int 1)) := by
  obtain ⟨fkC, hfC⟩ := shX11
  obtain ⟨fkM, hfM⟩ := shX12
  refine J_aload_n (pc := 851) dL_law_851 rfl ?_
  refine J_aload_n (pc := 852) dL_law_852 rfl ?_
  refine J_iload_n (pc := 853) dL_law_853 rfl ?_
  refine J_iconst (pc := 854) (v := 1) dL_law_854 (by decide) ?_
  refine J_iadd (pc := 855) dL_law_855 ?_
  refine J_sld (pc := 856) h1 dL_law_856 ?_
  obtain ⟨r1, σ1, σ2, e1, e2, hI2⟩ := st_21 hA (G.2.2.2.2.2.2.2 (x3 + 1).toNatClampNeg) σ hI
  refine J_callV (pc := 857) (o := 0) (K' := fun q sh σ' => sh = SH ∧ (q, σ') = rI (r1, σ1)) [.int (G.2.2.2.2.2.2.2 (x3 + 1).toNatClampNeg)] lk_L_104 rfl (ci := 11) rfl hfC (w_X11_plan G 105 (G.2.2.2.2.2.2.2 (x3 + 1).toNatClampNeg) σ (r1, σ1) e1) (fun _ _ _ hk => by rw [hk.1]; rfl) (by decide) (by decide) rfl rfl (Nat.le_of_ble_eq_true rfl) dL_law_857 (fun q sh' σ' hk => ?_)
  obtain ⟨rfl, hk⟩ := hk
  cases hk
  show J G mL_law (120 + 1) 600000 7302250 SH 200 18454 860 [some (.ref G.2.2.2.2.2.1), some (.ref (G.1 + off 0)), some (.ref (G.1 + off 1000)), some (.int x3)] [.int r1] σ1 (fun r _ _ => r = some (.int 1))
  refine J_aload_n (pc := 860) dL_law_860 rfl ?_
  refine J_aload_n (pc := 861) dL_law_861 rfl ?_
  refine J_iload_n (pc := 862) dL_law_862 rfl ?_
  refine J_iconst (pc := 863) (v := 1) dL_law_863 (by decide) ?_
  refine J_iadd (pc := 864) dL_law_864 ?_
  refine J_sld (pc := 865) h1 dL_law_865 ?_
  refine J_callV (pc := 866) (o := 1000) (K' := fun q sh σ' => sh = SH ∧ (q, σ') = rI (r1, σ2)) [.int (G.2.2.2.2.2.2.2 (x3 + 1).toNatClampNeg)] lk_L_107 rfl (ci := 12) rfl hfM (w_X12_plan G 113 (G.2.2.2.2.2.2.2 (x3 + 1).toNatClampNeg) σ1 (r1, σ2) e2) (fun _ _ _ hk => by rw [hk.1]; rfl) (by decide) (by decide) rfl rfl (Nat.le_of_ble_eq_true rfl) dL_law_866 (fun q sh' σ' hk => ?_)
  obtain ⟨rfl, hk⟩ := hk
  cases hk
  show J G mL_law (120 + 1) 600000 7302250 SH 200 18454 869 [some (.ref G.2.2.2.2.2.1), some (.ref (G.1 + off 0)), some (.ref (G.1 + off 1000)), some (.int x3)] [.int r1, .int r1] σ2 (fun r _ _ => r = some (.int 1))
  exact J_icmp_eq (pc := 869) (tgt := 1266) dL_law_869 (by decide) (fun _ => hk0 σ2 hI2) (fun z => absurd rfl z)
set_option maxHeartbeats 4000000 in
set_option maxRecDepth 100000 in
theorem law_c22 (G : JG) {Inv : Mem → Prop} (hA : AllSteps Inv) (x3 : Int32) (h1 : vp_in (x3 + 1) G.2.2.2.2.2.2.1) (h2 : vp_in (x3 + 2) G.2.2.2.2.2.2.1) (h3 : vp_in (x3 + 3) G.2.2.2.2.2.2.1) (h4 : vp_in (x3 + 4) G.2.2.2.2.2.2.1) (h5 : vp_in (x3 + 5) G.2.2.2.2.2.2.1) (hk0 : ∀ σ, Inv σ → J G mL_law (120 + 1) 600000 7302250 SH 200 18454 1266 [some (.ref G.2.2.2.2.2.1), some (.ref (G.1 + off 0)), some (.ref (G.1 + off 1000)), some (.int x3)] [] σ (fun r _ _ => r = some (.int 1))) (σ : Mem) (hI : Inv σ) : J G mL_law (120 + 1) 600000 7302250 SH 200 18454 874 [some (.ref G.2.2.2.2.2.1), some (.ref (G.1 + off 0)), some (.ref (G.1 + off 1000)), some (.int x3)] [] σ (fun r _ _ => r = some (.int 1)) := by
  obtain ⟨fkC, hfC⟩ := shX11
  obtain ⟨fkM, hfM⟩ := shX12
  refine J_aload_n (pc := 874) dL_law_874 rfl ?_
  obtain ⟨r1, σ1, σ2, e1, e2, hI2⟩ := st_22 hA  σ hI
  refine J_callV (pc := 875) (o := 0) (K' := fun q sh σ' => sh = SH ∧ (q, σ') = rI (r1, σ1)) [] lk_L_108 rfl (ci := 11) rfl hfC (w_X11_rings G 108  σ (r1, σ1) e1) (fun _ _ _ hk => by rw [hk.1]; rfl) (by decide) (by decide) rfl rfl (Nat.le_of_ble_eq_true rfl) dL_law_875 (fun q sh' σ' hk => ?_)
  obtain ⟨rfl, hk⟩ := hk
  cases hk
  show J G mL_law (120 + 1) 600000 7302250 SH 200 18454 878 [some (.ref G.2.2.2.2.2.1), some (.ref (G.1 + off 0)), some (.ref (G.1 + off 1000)), some (.int x3)] [.int r1] σ1 (fun r _ _ => r = some (.int 1))
  refine J_aload_n (pc := 878) dL_law_878 rfl ?_
  refine J_callV (pc := 879) (o := 1000) (K' := fun q sh σ' => sh = SH ∧ (q, σ') = rI (r1, σ2)) [] lk_L_111 rfl (ci := 12) rfl hfM (w_X12_rings G 117  σ1 (r1, σ2) e2) (fun _ _ _ hk => by rw [hk.1]; rfl) (by decide) (by decide) rfl rfl (Nat.le_of_ble_eq_true rfl) dL_law_879 (fun q sh' σ' hk => ?_)
  obtain ⟨rfl, hk⟩ := hk
  cases hk
  show J G mL_law (120 + 1) 600000 7302250 SH 200 18454 882 [some (.ref G.2.2.2.2.2.1), some (.ref (G.1 + off 0)), some (.ref (G.1 + off 1000)), some (.int x3)] [.int r1, .int r1] σ2 (fun r _ _ => r = some (.int 1))
  exact J_icmp_eq (pc := 882) (tgt := 1266) dL_law_882 (by decide) (fun _ => hk0 σ2 hI2) (fun z => absurd rfl z)
set_option maxHeartbeats 4000000 in
set_option maxRecDepth 100000 in
theorem law_c23 (G : JG) {Inv : Mem → Prop} (hA : AllSteps Inv) (x3 : Int32) (h1 : vp_in (x3 + 1) G.2.2.2.2.2.2.1) (h2 : vp_in (x3 + 2) G.2.2.2.2.2.2.1) (h3 : vp_in (x3 + 3) G.2.2.2.2.2.2.1) (h4 : vp_in (x3 + 4) G.2.2.2.2.2.2.1) (h5 : vp_in (x3 + 5) G.2.2.2.2.2.2.1) (hk0 : ∀ σ, Inv σ → J G mL_law (120 + 1) 600000 7302250 SH 200 18454 1266 [some (.ref G.2.2.2.2.2.1), some (.ref (G.1 + off 0)), some (.ref (G.1 + off 1000)), some (.int x3)] [] σ (fun r _ _ => r = some (.int 1))) (σ : Mem) (hI : Inv σ) : J G mL_law (120 + 1) 600000 7302250 SH 200 18454 887 [some (.ref G.2.2.2.2.2.1), some (.ref (G.1 + off 0)), some (.ref (G.1 + off 1000)), some (.int x3)] [] σ (fun r _ _ => r = some (.int 1)) := by
  obtain ⟨fkC, hfC⟩ := shX11
  obtain ⟨fkM, hfM⟩ := shX12
  refine J_aload_n (pc := 887) dL_law_887 rfl ?_
  obtain ⟨r1, σ1, σ2, e1, e2, hI2⟩ := st_23 hA  σ hI
  refine J_callV (pc := 888) (o := 0) (K' := fun q sh σ' => sh = SH ∧ (q, σ') = rI (r1, σ1)) [] lk_L_112 rfl (ci := 11) rfl hfC (w_X11_ring G 108  σ (r1, σ1) e1) (fun _ _ _ hk => by rw [hk.1]; rfl) (by decide) (by decide) rfl rfl (Nat.le_of_ble_eq_true rfl) dL_law_888 (fun q sh' σ' hk => ?_)
  obtain ⟨rfl, hk⟩ := hk
  cases hk
  show J G mL_law (120 + 1) 600000 7302250 SH 200 18454 891 [some (.ref G.2.2.2.2.2.1), some (.ref (G.1 + off 0)), some (.ref (G.1 + off 1000)), some (.int x3)] [.int r1] σ1 (fun r _ _ => r = some (.int 1))
  refine J_aload_n (pc := 891) dL_law_891 rfl ?_
  refine J_callV (pc := 892) (o := 1000) (K' := fun q sh σ' => sh = SH ∧ (q, σ') = rI (r1, σ2)) [] lk_L_115 rfl (ci := 12) rfl hfM (w_X12_ring G 117  σ1 (r1, σ2) e2) (fun _ _ _ hk => by rw [hk.1]; rfl) (by decide) (by decide) rfl rfl (Nat.le_of_ble_eq_true rfl) dL_law_892 (fun q sh' σ' hk => ?_)
  obtain ⟨rfl, hk⟩ := hk
  cases hk
  show J G mL_law (120 + 1) 600000 7302250 SH 200 18454 895 [some (.ref G.2.2.2.2.2.1), some (.ref (G.1 + off 0)), some (.ref (G.1 + off 1000)), some (.int x3)] [.int r1, .int r1] σ2 (fun r _ _ => r = some (.int 1))
  exact J_icmp_eq (pc := 895) (tgt := 1266) dL_law_895 (by decide) (fun _ => hk0 σ2 hI2) (fun z => absurd rfl z)
set_option maxHeartbeats 4000000 in
set_option maxRecDepth 100000 in
theorem law_c24 (G : JG) {Inv : Mem → Prop} (hA : AllSteps Inv) (x3 : Int32) (h1 : vp_in (x3 + 1) G.2.2.2.2.2.2.1) (h2 : vp_in (x3 + 2) G.2.2.2.2.2.2.1) (h3 : vp_in (x3 + 3) G.2.2.2.2.2.2.1) (h4 : vp_in (x3 + 4) G.2.2.2.2.2.2.1) (h5 : vp_in (x3 + 5) G.2.2.2.2.2.2.1) (hk0 : ∀ σ, Inv σ → J G mL_law (120 + 1) 600000 7302250 SH 200 18454 1266 [some (.ref G.2.2.2.2.2.1), some (.ref (G.1 + off 0)), some (.ref (G.1 + off 1000)), some (.int x3)] [] σ (fun r _ _ => r = some (.int 1))) (σ : Mem) (hI : Inv σ) : J G mL_law (120 + 1) 600000 7302250 SH 200 18454 900 [some (.ref G.2.2.2.2.2.1), some (.ref (G.1 + off 0)), some (.ref (G.1 + off 1000)), some (.int x3)] [] σ (fun r _ _ => r = some (.int 1)) := by
  obtain ⟨fkC, hfC⟩ := shX11
  obtain ⟨fkM, hfM⟩ := shX12
  refine J_aload_n (pc := 900) dL_law_900 rfl ?_
  refine J_aload_n (pc := 901) dL_law_901 rfl ?_
  refine J_iload_n (pc := 902) dL_law_902 rfl ?_
  refine J_iconst (pc := 903) (v := 1) dL_law_903 (by decide) ?_
  refine J_iadd (pc := 904) dL_law_904 ?_
  refine J_sld (pc := 905) h1 dL_law_905 ?_
  refine J_aload_n (pc := 906) dL_law_906 rfl ?_
  refine J_iload_n (pc := 907) dL_law_907 rfl ?_
  refine J_iconst (pc := 908) (v := 2) dL_law_908 (by decide) ?_
  refine J_iadd (pc := 909) dL_law_909 ?_
  refine J_sld (pc := 910) h2 dL_law_910 ?_
  refine J_aload_n (pc := 911) dL_law_911 rfl ?_
  refine J_iload_n (pc := 912) dL_law_912 rfl ?_
  refine J_iconst (pc := 913) (v := 3) dL_law_913 (by decide) ?_
  refine J_iadd (pc := 914) dL_law_914 ?_
  refine J_sld (pc := 915) h3 dL_law_915 ?_
  obtain ⟨r1, σ1, σ2, e1, e2, hI2⟩ := st_24 hA (G.2.2.2.2.2.2.2 (x3 + 1).toNatClampNeg) (G.2.2.2.2.2.2.2 (x3 + 2).toNatClampNeg) (G.2.2.2.2.2.2.2 (x3 + 3).toNatClampNeg) σ hI
  refine J_callV (pc := 916) (o := 0) (K' := fun q sh σ' => sh = SH ∧ (q, σ') = rI (r1, σ1)) [.int (G.2.2.2.2.2.2.2 (x3 + 1).toNatClampNeg), .int (G.2.2.2.2.2.2.2 (x3 + 2).toNatClampNeg), .int (G.2.2.2.2.2.2.2 (x3 + 3).toNatClampNeg)] lk_L_116 rfl (ci := 11) rfl hfC (w_X11_hide G 114 (G.2.2.2.2.2.2.2 (x3 + 1).toNatClampNeg) (G.2.2.2.2.2.2.2 (x3 + 2).toNatClampNeg) (G.2.2.2.2.2.2.2 (x3 + 3).toNatClampNeg) σ (r1, σ1) e1) (fun _ _ _ hk => by rw [hk.1]; rfl) (by decide) (by decide) rfl rfl (Nat.le_of_ble_eq_true rfl) dL_law_916 (fun q sh' σ' hk => ?_)
  obtain ⟨rfl, hk⟩ := hk
  cases hk
  show J G mL_law (120 + 1) 600000 7302250 SH 200 18454 919 [some (.ref G.2.2.2.2.2.1), some (.ref (G.1 + off 0)), some (.ref (G.1 + off 1000)), some (.int x3)] [.int r1] σ1 (fun r _ _ => r = some (.int 1))
  refine J_aload_n (pc := 919) dL_law_919 rfl ?_
  refine J_aload_n (pc := 920) dL_law_920 rfl ?_
  refine J_iload_n (pc := 921) dL_law_921 rfl ?_
  refine J_iconst (pc := 922) (v := 1) dL_law_922 (by decide) ?_
  refine J_iadd (pc := 923) dL_law_923 ?_
  refine J_sld (pc := 924) h1 dL_law_924 ?_
  refine J_aload_n (pc := 925) dL_law_925 rfl ?_
  refine J_iload_n (pc := 926) dL_law_926 rfl ?_
  refine J_iconst (pc := 927) (v := 2) dL_law_927 (by decide) ?_
  refine J_iadd (pc := 928) dL_law_928 ?_
  refine J_sld (pc := 929) h2 dL_law_929 ?_
  refine J_aload_n (pc := 930) dL_law_930 rfl ?_
  refine J_iload_n (pc := 931) dL_law_931 rfl ?_
  refine J_iconst (pc := 932) (v := 3) dL_law_932 (by decide) ?_
  refine J_iadd (pc := 933) dL_law_933 ?_
  refine J_sld (pc := 934) h3 dL_law_934 ?_
  refine J_callV (pc := 935) (o := 1000) (K' := fun q sh σ' => sh = SH ∧ (q, σ') = rI (r1, σ2)) [.int (G.2.2.2.2.2.2.2 (x3 + 1).toNatClampNeg), .int (G.2.2.2.2.2.2.2 (x3 + 2).toNatClampNeg), .int (G.2.2.2.2.2.2.2 (x3 + 3).toNatClampNeg)] lk_L_119 rfl (ci := 12) rfl hfM (w_X12_hide G 112 (G.2.2.2.2.2.2.2 (x3 + 1).toNatClampNeg) (G.2.2.2.2.2.2.2 (x3 + 2).toNatClampNeg) (G.2.2.2.2.2.2.2 (x3 + 3).toNatClampNeg) σ1 (r1, σ2) e2) (fun _ _ _ hk => by rw [hk.1]; rfl) (by decide) (by decide) rfl rfl (Nat.le_of_ble_eq_true rfl) dL_law_935 (fun q sh' σ' hk => ?_)
  obtain ⟨rfl, hk⟩ := hk
  cases hk
  show J G mL_law (120 + 1) 600000 7302250 SH 200 18454 938 [some (.ref G.2.2.2.2.2.1), some (.ref (G.1 + off 0)), some (.ref (G.1 + off 1000)), some (.int x3)] [.int r1, .int r1] σ2 (fun r _ _ => r = some (.int 1))
  exact J_icmp_eq (pc := 938) (tgt := 1266) dL_law_938 (by decide) (fun _ => hk0 σ2 hI2) (fun z => absurd rfl z)
set_option maxHeartbeats 4000000 in
set_option maxRecDepth 100000 in
theorem law_c25 (G : JG) {Inv : Mem → Prop} (hA : AllSteps Inv) (x3 : Int32) (h1 : vp_in (x3 + 1) G.2.2.2.2.2.2.1) (h2 : vp_in (x3 + 2) G.2.2.2.2.2.2.1) (h3 : vp_in (x3 + 3) G.2.2.2.2.2.2.1) (h4 : vp_in (x3 + 4) G.2.2.2.2.2.2.1) (h5 : vp_in (x3 + 5) G.2.2.2.2.2.2.1) (hk0 : ∀ σ, Inv σ → J G mL_law (120 + 1) 600000 7302250 SH 200 18454 1266 [some (.ref G.2.2.2.2.2.1), some (.ref (G.1 + off 0)), some (.ref (G.1 + off 1000)), some (.int x3)] [] σ (fun r _ _ => r = some (.int 1))) (σ : Mem) (hI : Inv σ) : J G mL_law (120 + 1) 600000 7302250 SH 200 18454 943 [some (.ref G.2.2.2.2.2.1), some (.ref (G.1 + off 0)), some (.ref (G.1 + off 1000)), some (.int x3)] [] σ (fun r _ _ => r = some (.int 1)) := by
  obtain ⟨fkC, hfC⟩ := shX11
  obtain ⟨fkM, hfM⟩ := shX12
  refine J_aload_n (pc := 943) dL_law_943 rfl ?_
  refine J_aload_n (pc := 944) dL_law_944 rfl ?_
  refine J_iload_n (pc := 945) dL_law_945 rfl ?_
  refine J_iconst (pc := 946) (v := 1) dL_law_946 (by decide) ?_
  refine J_iadd (pc := 947) dL_law_947 ?_
  refine J_sld (pc := 948) h1 dL_law_948 ?_
  refine J_aload_n (pc := 949) dL_law_949 rfl ?_
  refine J_iload_n (pc := 950) dL_law_950 rfl ?_
  refine J_iconst (pc := 951) (v := 2) dL_law_951 (by decide) ?_
  refine J_iadd (pc := 952) dL_law_952 ?_
  refine J_sld (pc := 953) h2 dL_law_953 ?_
  refine J_aload_n (pc := 954) dL_law_954 rfl ?_
  refine J_iload_n (pc := 955) dL_law_955 rfl ?_
  refine J_iconst (pc := 956) (v := 3) dL_law_956 (by decide) ?_
  refine J_iadd (pc := 957) dL_law_957 ?_
  refine J_sld (pc := 958) h3 dL_law_958 ?_
  obtain ⟨r1, σ1, σ2, e1, e2, hI2⟩ := st_25 hA (G.2.2.2.2.2.2.2 (x3 + 1).toNatClampNeg) (G.2.2.2.2.2.2.2 (x3 + 2).toNatClampNeg) (G.2.2.2.2.2.2.2 (x3 + 3).toNatClampNeg) σ hI
  refine J_callV (pc := 959) (o := 0) (K' := fun q sh σ' => sh = SH ∧ (q, σ') = rI (r1, σ1)) [.int (G.2.2.2.2.2.2.2 (x3 + 1).toNatClampNeg), .int (G.2.2.2.2.2.2.2 (x3 + 2).toNatClampNeg), .int (G.2.2.2.2.2.2.2 (x3 + 3).toNatClampNeg)] lk_L_120 rfl (ci := 11) rfl hfC (w_X11_word G 115 (G.2.2.2.2.2.2.2 (x3 + 1).toNatClampNeg) (G.2.2.2.2.2.2.2 (x3 + 2).toNatClampNeg) (G.2.2.2.2.2.2.2 (x3 + 3).toNatClampNeg) σ (r1, σ1) e1) (fun _ _ _ hk => by rw [hk.1]; rfl) (by decide) (by decide) rfl rfl (Nat.le_of_ble_eq_true rfl) dL_law_959 (fun q sh' σ' hk => ?_)
  obtain ⟨rfl, hk⟩ := hk
  cases hk
  show J G mL_law (120 + 1) 600000 7302250 SH 200 18454 962 [some (.ref G.2.2.2.2.2.1), some (.ref (G.1 + off 0)), some (.ref (G.1 + off 1000)), some (.int x3)] [.int r1] σ1 (fun r _ _ => r = some (.int 1))
  refine J_aload_n (pc := 962) dL_law_962 rfl ?_
  refine J_aload_n (pc := 963) dL_law_963 rfl ?_
  refine J_iload_n (pc := 964) dL_law_964 rfl ?_
  refine J_iconst (pc := 965) (v := 1) dL_law_965 (by decide) ?_
  refine J_iadd (pc := 966) dL_law_966 ?_
  refine J_sld (pc := 967) h1 dL_law_967 ?_
  refine J_aload_n (pc := 968) dL_law_968 rfl ?_
  refine J_iload_n (pc := 969) dL_law_969 rfl ?_
  refine J_iconst (pc := 970) (v := 2) dL_law_970 (by decide) ?_
  refine J_iadd (pc := 971) dL_law_971 ?_
  refine J_sld (pc := 972) h2 dL_law_972 ?_
  refine J_aload_n (pc := 973) dL_law_973 rfl ?_
  refine J_iload_n (pc := 974) dL_law_974 rfl ?_
  refine J_iconst (pc := 975) (v := 3) dL_law_975 (by decide) ?_
  refine J_iadd (pc := 976) dL_law_976 ?_
  refine J_sld (pc := 977) h3 dL_law_977 ?_
  refine J_callV (pc := 978) (o := 1000) (K' := fun q sh σ' => sh = SH ∧ (q, σ') = rI (r1, σ2)) [.int (G.2.2.2.2.2.2.2 (x3 + 1).toNatClampNeg), .int (G.2.2.2.2.2.2.2 (x3 + 2).toNatClampNeg), .int (G.2.2.2.2.2.2.2 (x3 + 3).toNatClampNeg)] lk_L_123 rfl (ci := 12) rfl hfM (w_X12_word G 113 (G.2.2.2.2.2.2.2 (x3 + 1).toNatClampNeg) (G.2.2.2.2.2.2.2 (x3 + 2).toNatClampNeg) (G.2.2.2.2.2.2.2 (x3 + 3).toNatClampNeg) σ1 (r1, σ2) e2) (fun _ _ _ hk => by rw [hk.1]; rfl) (by decide) (by decide) rfl rfl (Nat.le_of_ble_eq_true rfl) dL_law_978 (fun q sh' σ' hk => ?_)
  obtain ⟨rfl, hk⟩ := hk
  cases hk
  show J G mL_law (120 + 1) 600000 7302250 SH 200 18454 981 [some (.ref G.2.2.2.2.2.1), some (.ref (G.1 + off 0)), some (.ref (G.1 + off 1000)), some (.int x3)] [.int r1, .int r1] σ2 (fun r _ _ => r = some (.int 1))
  exact J_icmp_eq (pc := 981) (tgt := 1266) dL_law_981 (by decide) (fun _ => hk0 σ2 hI2) (fun z => absurd rfl z)
set_option maxHeartbeats 4000000 in
set_option maxRecDepth 100000 in
theorem law_c26 (G : JG) {Inv : Mem → Prop} (hA : AllSteps Inv) (x3 : Int32) (h1 : vp_in (x3 + 1) G.2.2.2.2.2.2.1) (h2 : vp_in (x3 + 2) G.2.2.2.2.2.2.1) (h3 : vp_in (x3 + 3) G.2.2.2.2.2.2.1) (h4 : vp_in (x3 + 4) G.2.2.2.2.2.2.1) (h5 : vp_in (x3 + 5) G.2.2.2.2.2.2.1) (hk0 : ∀ σ, Inv σ → J G mL_law (120 + 1) 600000 7302250 SH 200 18454 1266 [some (.ref G.2.2.2.2.2.1), some (.ref (G.1 + off 0)), some (.ref (G.1 + off 1000)), some (.int x3)] [] σ (fun r _ _ => r = some (.int 1))) (σ : Mem) (hI : Inv σ) : J G mL_law (120 + 1) 600000 7302250 SH 200 18454 986 [some (.ref G.2.2.2.2.2.1), some (.ref (G.1 + off 0)), some (.ref (G.1 + off 1000)), some (.int x3)] [] σ (fun r _ _ => r = some (.int 1)) := by
  obtain ⟨fkC, hfC⟩ := shX11
  obtain ⟨fkM, hfM⟩ := shX12
  refine J_aload_n (pc := 986) dL_law_986 rfl ?_
  refine J_aload_n (pc := 987) dL_law_987 rfl ?_
  refine J_iload_n (pc := 988) dL_law_988 rfl ?_
  refine J_iconst (pc := 989) (v := 1) dL_law_989 (by decide) ?_
  refine J_iadd (pc := 990) dL_law_990 ?_
  refine J_sld (pc := 991) h1 dL_law_991 ?_
  obtain ⟨r1, σ1, σ2, e1, e2, hI2⟩ := st_26 hA (G.2.2.2.2.2.2.2 (x3 + 1).toNatClampNeg) σ hI
  refine J_callV (pc := 992) (o := 0) (K' := fun q sh σ' => sh = SH ∧ (q, σ') = rI (r1, σ1)) [.int (G.2.2.2.2.2.2.2 (x3 + 1).toNatClampNeg)] lk_L_124 rfl (ci := 11) rfl hfC (w_X11_lies G 120 (G.2.2.2.2.2.2.2 (x3 + 1).toNatClampNeg) σ (r1, σ1) e1) (fun _ _ _ hk => by rw [hk.1]; rfl) (by decide) (by decide) rfl rfl (Nat.le_of_ble_eq_true rfl) dL_law_992 (fun q sh' σ' hk => ?_)
  obtain ⟨rfl, hk⟩ := hk
  cases hk
  show J G mL_law (120 + 1) 600000 7302250 SH 200 18454 995 [some (.ref G.2.2.2.2.2.1), some (.ref (G.1 + off 0)), some (.ref (G.1 + off 1000)), some (.int x3)] [.int r1] σ1 (fun r _ _ => r = some (.int 1))
  refine J_aload_n (pc := 995) dL_law_995 rfl ?_
  refine J_aload_n (pc := 996) dL_law_996 rfl ?_
  refine J_iload_n (pc := 997) dL_law_997 rfl ?_
  refine J_iconst (pc := 998) (v := 1) dL_law_998 (by decide) ?_
  refine J_iadd (pc := 999) dL_law_999 ?_
  refine J_sld (pc := 1000) h1 dL_law_1000 ?_
  refine J_callV (pc := 1001) (o := 1000) (K' := fun q sh σ' => sh = SH ∧ (q, σ') = rI (r1, σ2)) [.int (G.2.2.2.2.2.2.2 (x3 + 1).toNatClampNeg)] lk_L_127 rfl (ci := 12) rfl hfM (w_X12_lies G 119 (G.2.2.2.2.2.2.2 (x3 + 1).toNatClampNeg) σ1 (r1, σ2) e2) (fun _ _ _ hk => by rw [hk.1]; rfl) (by decide) (by decide) rfl rfl (Nat.le_of_ble_eq_true rfl) dL_law_1001 (fun q sh' σ' hk => ?_)
  obtain ⟨rfl, hk⟩ := hk
  cases hk
  show J G mL_law (120 + 1) 600000 7302250 SH 200 18454 1004 [some (.ref G.2.2.2.2.2.1), some (.ref (G.1 + off 0)), some (.ref (G.1 + off 1000)), some (.int x3)] [.int r1, .int r1] σ2 (fun r _ _ => r = some (.int 1))
  exact J_icmp_eq (pc := 1004) (tgt := 1266) dL_law_1004 (by decide) (fun _ => hk0 σ2 hI2) (fun z => absurd rfl z)
set_option maxHeartbeats 4000000 in
set_option maxRecDepth 100000 in
theorem law_c27 (G : JG) {Inv : Mem → Prop} (hA : AllSteps Inv) (x3 : Int32) (h1 : vp_in (x3 + 1) G.2.2.2.2.2.2.1) (h2 : vp_in (x3 + 2) G.2.2.2.2.2.2.1) (h3 : vp_in (x3 + 3) G.2.2.2.2.2.2.1) (h4 : vp_in (x3 + 4) G.2.2.2.2.2.2.1) (h5 : vp_in (x3 + 5) G.2.2.2.2.2.2.1) (hk0 : ∀ σ, Inv σ → J G mL_law (120 + 1) 600000 7302250 SH 200 18454 1266 [some (.ref G.2.2.2.2.2.1), some (.ref (G.1 + off 0)), some (.ref (G.1 + off 1000)), some (.int x3)] [] σ (fun r _ _ => r = some (.int 1))) (σ : Mem) (hI : Inv σ) : J G mL_law (120 + 1) 600000 7302250 SH 200 18454 1009 [some (.ref G.2.2.2.2.2.1), some (.ref (G.1 + off 0)), some (.ref (G.1 + off 1000)), some (.int x3)] [] σ (fun r _ _ => r = some (.int 1)) := by
  obtain ⟨fkC, hfC⟩ := shX11
  obtain ⟨fkM, hfM⟩ := shX12
  refine J_aload_n (pc := 1009) dL_law_1009 rfl ?_
  refine J_aload_n (pc := 1010) dL_law_1010 rfl ?_
  refine J_iload_n (pc := 1011) dL_law_1011 rfl ?_
  refine J_iconst (pc := 1012) (v := 1) dL_law_1012 (by decide) ?_
  refine J_iadd (pc := 1013) dL_law_1013 ?_
  refine J_sld (pc := 1014) h1 dL_law_1014 ?_
  refine J_aload_n (pc := 1015) dL_law_1015 rfl ?_
  refine J_iload_n (pc := 1016) dL_law_1016 rfl ?_
  refine J_iconst (pc := 1017) (v := 2) dL_law_1017 (by decide) ?_
  refine J_iadd (pc := 1018) dL_law_1018 ?_
  refine J_sld (pc := 1019) h2 dL_law_1019 ?_
  refine J_aload_n (pc := 1020) dL_law_1020 rfl ?_
  refine J_iload_n (pc := 1021) dL_law_1021 rfl ?_
  refine J_iconst (pc := 1022) (v := 3) dL_law_1022 (by decide) ?_
  refine J_iadd (pc := 1023) dL_law_1023 ?_
  refine J_sld (pc := 1024) h3 dL_law_1024 ?_
  obtain ⟨r1, σ1, σ2, e1, e2, hI2⟩ := st_27 hA (G.2.2.2.2.2.2.2 (x3 + 1).toNatClampNeg) (G.2.2.2.2.2.2.2 (x3 + 2).toNatClampNeg) (G.2.2.2.2.2.2.2 (x3 + 3).toNatClampNeg) σ hI
  refine J_callV (pc := 1025) (o := 0) (K' := fun q sh σ' => sh = SH ∧ (q, σ') = rI (r1, σ1)) [.int (G.2.2.2.2.2.2.2 (x3 + 1).toNatClampNeg), .int (G.2.2.2.2.2.2.2 (x3 + 2).toNatClampNeg), .int (G.2.2.2.2.2.2.2 (x3 + 3).toNatClampNeg)] lk_L_128 rfl (ci := 11) rfl hfC (w_X11_step G 119 (G.2.2.2.2.2.2.2 (x3 + 1).toNatClampNeg) (G.2.2.2.2.2.2.2 (x3 + 2).toNatClampNeg) (G.2.2.2.2.2.2.2 (x3 + 3).toNatClampNeg) σ (r1, σ1) e1) (fun _ _ _ hk => by rw [hk.1]; rfl) (by decide) (by decide) rfl rfl (Nat.le_of_ble_eq_true rfl) dL_law_1025 (fun q sh' σ' hk => ?_)
  obtain ⟨rfl, hk⟩ := hk
  cases hk
  show J G mL_law (120 + 1) 600000 7302250 SH 200 18454 1028 [some (.ref G.2.2.2.2.2.1), some (.ref (G.1 + off 0)), some (.ref (G.1 + off 1000)), some (.int x3)] [.int r1] σ1 (fun r _ _ => r = some (.int 1))
  refine J_aload_n (pc := 1028) dL_law_1028 rfl ?_
  refine J_aload_n (pc := 1029) dL_law_1029 rfl ?_
  refine J_iload_n (pc := 1030) dL_law_1030 rfl ?_
  refine J_iconst (pc := 1031) (v := 1) dL_law_1031 (by decide) ?_
  refine J_iadd (pc := 1032) dL_law_1032 ?_
  refine J_sld (pc := 1033) h1 dL_law_1033 ?_
  refine J_aload_n (pc := 1034) dL_law_1034 rfl ?_
  refine J_iload_n (pc := 1035) dL_law_1035 rfl ?_
  refine J_iconst (pc := 1036) (v := 2) dL_law_1036 (by decide) ?_
  refine J_iadd (pc := 1037) dL_law_1037 ?_
  refine J_sld (pc := 1038) h2 dL_law_1038 ?_
  refine J_aload_n (pc := 1039) dL_law_1039 rfl ?_
  refine J_iload_n (pc := 1040) dL_law_1040 rfl ?_
  refine J_iconst (pc := 1041) (v := 3) dL_law_1041 (by decide) ?_
  refine J_iadd (pc := 1042) dL_law_1042 ?_
  refine J_sld (pc := 1043) h3 dL_law_1043 ?_
  refine J_callV (pc := 1044) (o := 1000) (K' := fun q sh σ' => sh = SH ∧ (q, σ') = rI (r1, σ2)) [.int (G.2.2.2.2.2.2.2 (x3 + 1).toNatClampNeg), .int (G.2.2.2.2.2.2.2 (x3 + 2).toNatClampNeg), .int (G.2.2.2.2.2.2.2 (x3 + 3).toNatClampNeg)] lk_L_131 rfl (ci := 12) rfl hfM (w_X12_step G 118 (G.2.2.2.2.2.2.2 (x3 + 1).toNatClampNeg) (G.2.2.2.2.2.2.2 (x3 + 2).toNatClampNeg) (G.2.2.2.2.2.2.2 (x3 + 3).toNatClampNeg) σ1 (r1, σ2) e2) (fun _ _ _ hk => by rw [hk.1]; rfl) (by decide) (by decide) rfl rfl (Nat.le_of_ble_eq_true rfl) dL_law_1044 (fun q sh' σ' hk => ?_)
  obtain ⟨rfl, hk⟩ := hk
  cases hk
  show J G mL_law (120 + 1) 600000 7302250 SH 200 18454 1047 [some (.ref G.2.2.2.2.2.1), some (.ref (G.1 + off 0)), some (.ref (G.1 + off 1000)), some (.int x3)] [.int r1, .int r1] σ2 (fun r _ _ => r = some (.int 1))
  exact J_icmp_eq (pc := 1047) (tgt := 1266) dL_law_1047 (by decide) (fun _ => hk0 σ2 hI2) (fun z => absurd rfl z)
set_option maxHeartbeats 4000000 in
set_option maxRecDepth 100000 in
theorem law_c28 (G : JG) {Inv : Mem → Prop} (hA : AllSteps Inv) (x3 : Int32) (h1 : vp_in (x3 + 1) G.2.2.2.2.2.2.1) (h2 : vp_in (x3 + 2) G.2.2.2.2.2.2.1) (h3 : vp_in (x3 + 3) G.2.2.2.2.2.2.1) (h4 : vp_in (x3 + 4) G.2.2.2.2.2.2.1) (h5 : vp_in (x3 + 5) G.2.2.2.2.2.2.1) (hk0 : ∀ σ, Inv σ → J G mL_law (120 + 1) 600000 7302250 SH 200 18454 1266 [some (.ref G.2.2.2.2.2.1), some (.ref (G.1 + off 0)), some (.ref (G.1 + off 1000)), some (.int x3)] [] σ (fun r _ _ => r = some (.int 1))) (σ : Mem) (hI : Inv σ) : J G mL_law (120 + 1) 600000 7302250 SH 200 18454 1052 [some (.ref G.2.2.2.2.2.1), some (.ref (G.1 + off 0)), some (.ref (G.1 + off 1000)), some (.int x3)] [] σ (fun r _ _ => r = some (.int 1)) := by
  obtain ⟨fkC, hfC⟩ := shX11
  obtain ⟨fkM, hfM⟩ := shX12
  refine J_aload_n (pc := 1052) dL_law_1052 rfl ?_
  refine J_aload_n (pc := 1053) dL_law_1053 rfl ?_
  refine J_iload_n (pc := 1054) dL_law_1054 rfl ?_
  refine J_iconst (pc := 1055) (v := 1) dL_law_1055 (by decide) ?_
  refine J_iadd (pc := 1056) dL_law_1056 ?_
  refine J_sld (pc := 1057) h1 dL_law_1057 ?_
  obtain ⟨r1, σ1, σ2, e1, e2, hI2⟩ := st_28 hA (G.2.2.2.2.2.2.2 (x3 + 1).toNatClampNeg) σ hI
  refine J_callV (pc := 1058) (o := 0) (K' := fun q sh σ' => sh = SH ∧ (q, σ') = rI (r1, σ1)) [.int (G.2.2.2.2.2.2.2 (x3 + 1).toNatClampNeg)] lk_L_132 rfl (ci := 11) rfl hfC (w_X11_untell G 119 (G.2.2.2.2.2.2.2 (x3 + 1).toNatClampNeg) σ (r1, σ1) e1) (fun _ _ _ hk => by rw [hk.1]; rfl) (by decide) (by decide) rfl rfl (Nat.le_of_ble_eq_true rfl) dL_law_1058 (fun q sh' σ' hk => ?_)
  obtain ⟨rfl, hk⟩ := hk
  cases hk
  show J G mL_law (120 + 1) 600000 7302250 SH 200 18454 1061 [some (.ref G.2.2.2.2.2.1), some (.ref (G.1 + off 0)), some (.ref (G.1 + off 1000)), some (.int x3)] [.int r1] σ1 (fun r _ _ => r = some (.int 1))
  refine J_aload_n (pc := 1061) dL_law_1061 rfl ?_
  refine J_aload_n (pc := 1062) dL_law_1062 rfl ?_
  refine J_iload_n (pc := 1063) dL_law_1063 rfl ?_
  refine J_iconst (pc := 1064) (v := 1) dL_law_1064 (by decide) ?_
  refine J_iadd (pc := 1065) dL_law_1065 ?_
  refine J_sld (pc := 1066) h1 dL_law_1066 ?_
  refine J_callV (pc := 1067) (o := 1000) (K' := fun q sh σ' => sh = SH ∧ (q, σ') = rI (r1, σ2)) [.int (G.2.2.2.2.2.2.2 (x3 + 1).toNatClampNeg)] lk_L_136 rfl (ci := 12) rfl hfM (w_X12_untell G 119 (G.2.2.2.2.2.2.2 (x3 + 1).toNatClampNeg) σ1 (r1, σ2) e2) (fun _ _ _ hk => by rw [hk.1]; rfl) (by decide) (by decide) rfl rfl (Nat.le_of_ble_eq_true rfl) dL_law_1067 (fun q sh' σ' hk => ?_)
  obtain ⟨rfl, hk⟩ := hk
  cases hk
  show J G mL_law (120 + 1) 600000 7302250 SH 200 18454 1070 [some (.ref G.2.2.2.2.2.1), some (.ref (G.1 + off 0)), some (.ref (G.1 + off 1000)), some (.int x3)] [.int r1, .int r1] σ2 (fun r _ _ => r = some (.int 1))
  exact J_icmp_eq (pc := 1070) (tgt := 1266) dL_law_1070 (by decide) (fun _ => hk0 σ2 hI2) (fun z => absurd rfl z)
set_option maxHeartbeats 4000000 in
set_option maxRecDepth 100000 in
theorem law_c29 (G : JG) {Inv : Mem → Prop} (hA : AllSteps Inv) (x3 : Int32) (h1 : vp_in (x3 + 1) G.2.2.2.2.2.2.1) (h2 : vp_in (x3 + 2) G.2.2.2.2.2.2.1) (h3 : vp_in (x3 + 3) G.2.2.2.2.2.2.1) (h4 : vp_in (x3 + 4) G.2.2.2.2.2.2.1) (h5 : vp_in (x3 + 5) G.2.2.2.2.2.2.1) (hk0 : ∀ σ, Inv σ → J G mL_law (120 + 1) 600000 7302250 SH 200 18454 1266 [some (.ref G.2.2.2.2.2.1), some (.ref (G.1 + off 0)), some (.ref (G.1 + off 1000)), some (.int x3)] [] σ (fun r _ _ => r = some (.int 1))) (σ : Mem) (hI : Inv σ) : J G mL_law (120 + 1) 600000 7302250 SH 200 18454 1075 [some (.ref G.2.2.2.2.2.1), some (.ref (G.1 + off 0)), some (.ref (G.1 + off 1000)), some (.int x3)] [] σ (fun r _ _ => r = some (.int 1)) := by
  obtain ⟨fkC, hfC⟩ := shX11
  obtain ⟨fkM, hfM⟩ := shX12
  refine J_aload_n (pc := 1075) dL_law_1075 rfl ?_
  refine J_aload_n (pc := 1076) dL_law_1076 rfl ?_
  refine J_iload_n (pc := 1077) dL_law_1077 rfl ?_
  refine J_iconst (pc := 1078) (v := 1) dL_law_1078 (by decide) ?_
  refine J_iadd (pc := 1079) dL_law_1079 ?_
  refine J_sld (pc := 1080) h1 dL_law_1080 ?_
  obtain ⟨r1, σ1, σ2, e1, e2, hI2⟩ := st_29 hA (G.2.2.2.2.2.2.2 (x3 + 1).toNatClampNeg) σ hI
  refine J_callV (pc := 1081) (o := 0) (K' := fun q sh σ' => sh = SH ∧ (q, σ') = rI (r1, σ1)) [.int (G.2.2.2.2.2.2.2 (x3 + 1).toNatClampNeg)] lk_L_137 rfl (ci := 11) rfl hfC (w_X11_later G 119 (G.2.2.2.2.2.2.2 (x3 + 1).toNatClampNeg) σ (r1, σ1) e1) (fun _ _ _ hk => by rw [hk.1]; rfl) (by decide) (by decide) rfl rfl (Nat.le_of_ble_eq_true rfl) dL_law_1081 (fun q sh' σ' hk => ?_)
  obtain ⟨rfl, hk⟩ := hk
  cases hk
  show J G mL_law (120 + 1) 600000 7302250 SH 200 18454 1084 [some (.ref G.2.2.2.2.2.1), some (.ref (G.1 + off 0)), some (.ref (G.1 + off 1000)), some (.int x3)] [.int r1] σ1 (fun r _ _ => r = some (.int 1))
  refine J_aload_n (pc := 1084) dL_law_1084 rfl ?_
  refine J_aload_n (pc := 1085) dL_law_1085 rfl ?_
  refine J_iload_n (pc := 1086) dL_law_1086 rfl ?_
  refine J_iconst (pc := 1087) (v := 1) dL_law_1087 (by decide) ?_
  refine J_iadd (pc := 1088) dL_law_1088 ?_
  refine J_sld (pc := 1089) h1 dL_law_1089 ?_
  refine J_callV (pc := 1090) (o := 1000) (K' := fun q sh σ' => sh = SH ∧ (q, σ') = rI (r1, σ2)) [.int (G.2.2.2.2.2.2.2 (x3 + 1).toNatClampNeg)] lk_L_140 rfl (ci := 12) rfl hfM (w_X12_later G 120 (G.2.2.2.2.2.2.2 (x3 + 1).toNatClampNeg) σ1 (r1, σ2) e2) (fun _ _ _ hk => by rw [hk.1]; rfl) (by decide) (by decide) rfl rfl (Nat.le_of_ble_eq_true rfl) dL_law_1090 (fun q sh' σ' hk => ?_)
  obtain ⟨rfl, hk⟩ := hk
  cases hk
  show J G mL_law (120 + 1) 600000 7302250 SH 200 18454 1093 [some (.ref G.2.2.2.2.2.1), some (.ref (G.1 + off 0)), some (.ref (G.1 + off 1000)), some (.int x3)] [.int r1, .int r1] σ2 (fun r _ _ => r = some (.int 1))
  exact J_icmp_eq (pc := 1093) (tgt := 1266) dL_law_1093 (by decide) (fun _ => hk0 σ2 hI2) (fun z => absurd rfl z)
set_option maxHeartbeats 4000000 in
set_option maxRecDepth 100000 in
theorem law_c30 (G : JG) {Inv : Mem → Prop} (hA : AllSteps Inv) (x3 : Int32) (h1 : vp_in (x3 + 1) G.2.2.2.2.2.2.1) (h2 : vp_in (x3 + 2) G.2.2.2.2.2.2.1) (h3 : vp_in (x3 + 3) G.2.2.2.2.2.2.1) (h4 : vp_in (x3 + 4) G.2.2.2.2.2.2.1) (h5 : vp_in (x3 + 5) G.2.2.2.2.2.2.1) (hk0 : ∀ σ, Inv σ → J G mL_law (120 + 1) 600000 7302250 SH 200 18454 1266 [some (.ref G.2.2.2.2.2.1), some (.ref (G.1 + off 0)), some (.ref (G.1 + off 1000)), some (.int x3)] [] σ (fun r _ _ => r = some (.int 1))) (σ : Mem) (hI : Inv σ) : J G mL_law (120 + 1) 600000 7302250 SH 200 18454 1098 [some (.ref G.2.2.2.2.2.1), some (.ref (G.1 + off 0)), some (.ref (G.1 + off 1000)), some (.int x3)] [] σ (fun r _ _ => r = some (.int 1)) := by
  obtain ⟨fkC, hfC⟩ := shX11
  obtain ⟨fkM, hfM⟩ := shX12
  refine J_aload_n (pc := 1098) dL_law_1098 rfl ?_
  refine J_aload_n (pc := 1099) dL_law_1099 rfl ?_
  refine J_iload_n (pc := 1100) dL_law_1100 rfl ?_
  refine J_iconst (pc := 1101) (v := 1) dL_law_1101 (by decide) ?_
  refine J_iadd (pc := 1102) dL_law_1102 ?_
  refine J_sld (pc := 1103) h1 dL_law_1103 ?_
  refine J_aload_n (pc := 1104) dL_law_1104 rfl ?_
  refine J_iload_n (pc := 1105) dL_law_1105 rfl ?_
  refine J_iconst (pc := 1106) (v := 2) dL_law_1106 (by decide) ?_
  refine J_iadd (pc := 1107) dL_law_1107 ?_
  refine J_sld (pc := 1108) h2 dL_law_1108 ?_
  obtain ⟨r1, σ1, σ2, e1, e2, hI2⟩ := st_30 hA (G.2.2.2.2.2.2.2 (x3 + 1).toNatClampNeg) (G.2.2.2.2.2.2.2 (x3 + 2).toNatClampNeg) σ hI
  refine J_callV (pc := 1109) (o := 0) (K' := fun q sh σ' => sh = SH ∧ (q, σ') = rI (r1, σ1)) [.int (G.2.2.2.2.2.2.2 (x3 + 1).toNatClampNeg), .int (G.2.2.2.2.2.2.2 (x3 + 2).toNatClampNeg)] lk_L_141 rfl (ci := 11) rfl hfC (w_X11_fit G 117 (G.2.2.2.2.2.2.2 (x3 + 1).toNatClampNeg) (G.2.2.2.2.2.2.2 (x3 + 2).toNatClampNeg) σ (r1, σ1) e1) (fun _ _ _ hk => by rw [hk.1]; rfl) (by decide) (by decide) rfl rfl (Nat.le_of_ble_eq_true rfl) dL_law_1109 (fun q sh' σ' hk => ?_)
  obtain ⟨rfl, hk⟩ := hk
  cases hk
  show J G mL_law (120 + 1) 600000 7302250 SH 200 18454 1112 [some (.ref G.2.2.2.2.2.1), some (.ref (G.1 + off 0)), some (.ref (G.1 + off 1000)), some (.int x3)] [.int r1] σ1 (fun r _ _ => r = some (.int 1))
  refine J_aload_n (pc := 1112) dL_law_1112 rfl ?_
  refine J_aload_n (pc := 1113) dL_law_1113 rfl ?_
  refine J_iload_n (pc := 1114) dL_law_1114 rfl ?_
  refine J_iconst (pc := 1115) (v := 1) dL_law_1115 (by decide) ?_
  refine J_iadd (pc := 1116) dL_law_1116 ?_
  refine J_sld (pc := 1117) h1 dL_law_1117 ?_
  refine J_aload_n (pc := 1118) dL_law_1118 rfl ?_
  refine J_iload_n (pc := 1119) dL_law_1119 rfl ?_
  refine J_iconst (pc := 1120) (v := 2) dL_law_1120 (by decide) ?_
  refine J_iadd (pc := 1121) dL_law_1121 ?_
  refine J_sld (pc := 1122) h2 dL_law_1122 ?_
  refine J_callV (pc := 1123) (o := 1000) (K' := fun q sh σ' => sh = SH ∧ (q, σ') = rI (r1, σ2)) [.int (G.2.2.2.2.2.2.2 (x3 + 1).toNatClampNeg), .int (G.2.2.2.2.2.2.2 (x3 + 2).toNatClampNeg)] lk_L_144 rfl (ci := 12) rfl hfM (w_X12_fit G 117 (G.2.2.2.2.2.2.2 (x3 + 1).toNatClampNeg) (G.2.2.2.2.2.2.2 (x3 + 2).toNatClampNeg) σ1 (r1, σ2) e2) (fun _ _ _ hk => by rw [hk.1]; rfl) (by decide) (by decide) rfl rfl (Nat.le_of_ble_eq_true rfl) dL_law_1123 (fun q sh' σ' hk => ?_)
  obtain ⟨rfl, hk⟩ := hk
  cases hk
  show J G mL_law (120 + 1) 600000 7302250 SH 200 18454 1126 [some (.ref G.2.2.2.2.2.1), some (.ref (G.1 + off 0)), some (.ref (G.1 + off 1000)), some (.int x3)] [.int r1, .int r1] σ2 (fun r _ _ => r = some (.int 1))
  exact J_icmp_eq (pc := 1126) (tgt := 1266) dL_law_1126 (by decide) (fun _ => hk0 σ2 hI2) (fun z => absurd rfl z)
set_option maxHeartbeats 4000000 in
set_option maxRecDepth 100000 in
theorem law_c31 (G : JG) {Inv : Mem → Prop} (hA : AllSteps Inv) (x3 : Int32) (h1 : vp_in (x3 + 1) G.2.2.2.2.2.2.1) (h2 : vp_in (x3 + 2) G.2.2.2.2.2.2.1) (h3 : vp_in (x3 + 3) G.2.2.2.2.2.2.1) (h4 : vp_in (x3 + 4) G.2.2.2.2.2.2.1) (h5 : vp_in (x3 + 5) G.2.2.2.2.2.2.1) (hk0 : ∀ σ, Inv σ → J G mL_law (120 + 1) 600000 7302250 SH 200 18454 1266 [some (.ref G.2.2.2.2.2.1), some (.ref (G.1 + off 0)), some (.ref (G.1 + off 1000)), some (.int x3)] [] σ (fun r _ _ => r = some (.int 1))) (σ : Mem) (hI : Inv σ) : J G mL_law (120 + 1) 600000 7302250 SH 200 18454 1131 [some (.ref G.2.2.2.2.2.1), some (.ref (G.1 + off 0)), some (.ref (G.1 + off 1000)), some (.int x3)] [] σ (fun r _ _ => r = some (.int 1)) := by
  obtain ⟨fkC, hfC⟩ := shX11
  obtain ⟨fkM, hfM⟩ := shX12
  refine J_aload_n (pc := 1131) dL_law_1131 rfl ?_
  refine J_aload_n (pc := 1132) dL_law_1132 rfl ?_
  refine J_iload_n (pc := 1133) dL_law_1133 rfl ?_
  refine J_iconst (pc := 1134) (v := 1) dL_law_1134 (by decide) ?_
  refine J_iadd (pc := 1135) dL_law_1135 ?_
  refine J_sld (pc := 1136) h1 dL_law_1136 ?_
  obtain ⟨r1, σ1, σ2, e1, e2, hI2⟩ := st_31 hA (G.2.2.2.2.2.2.2 (x3 + 1).toNatClampNeg) σ hI
  refine J_callV (pc := 1137) (o := 0) (K' := fun q sh σ' => sh = SH ∧ (q, σ') = rI (r1, σ1)) [.int (G.2.2.2.2.2.2.2 (x3 + 1).toNatClampNeg)] lk_L_145 rfl (ci := 11) rfl hfC (w_X11_sham G 117 (G.2.2.2.2.2.2.2 (x3 + 1).toNatClampNeg) σ (r1, σ1) e1) (fun _ _ _ hk => by rw [hk.1]; rfl) (by decide) (by decide) rfl rfl (Nat.le_of_ble_eq_true rfl) dL_law_1137 (fun q sh' σ' hk => ?_)
  obtain ⟨rfl, hk⟩ := hk
  cases hk
  show J G mL_law (120 + 1) 600000 7302250 SH 200 18454 1140 [some (.ref G.2.2.2.2.2.1), some (.ref (G.1 + off 0)), some (.ref (G.1 + off 1000)), some (.int x3)] [.int r1] σ1 (fun r _ _ => r = some (.int 1))
  refine J_aload_n (pc := 1140) dL_law_1140 rfl ?_
  refine J_aload_n (pc := 1141) dL_law_1141 rfl ?_
  refine J_iload_n (pc := 1142) dL_law_1142 rfl ?_
  refine J_iconst (pc := 1143) (v := 1) dL_law_1143 (by decide) ?_
  refine J_iadd (pc := 1144) dL_law_1144 ?_
  refine J_sld (pc := 1145) h1 dL_law_1145 ?_
  refine J_callV (pc := 1146) (o := 1000) (K' := fun q sh σ' => sh = SH ∧ (q, σ') = rI (r1, σ2)) [.int (G.2.2.2.2.2.2.2 (x3 + 1).toNatClampNeg)] lk_L_148 rfl (ci := 12) rfl hfM (w_X12_sham G 117 (G.2.2.2.2.2.2.2 (x3 + 1).toNatClampNeg) σ1 (r1, σ2) e2) (fun _ _ _ hk => by rw [hk.1]; rfl) (by decide) (by decide) rfl rfl (Nat.le_of_ble_eq_true rfl) dL_law_1146 (fun q sh' σ' hk => ?_)
  obtain ⟨rfl, hk⟩ := hk
  cases hk
  show J G mL_law (120 + 1) 600000 7302250 SH 200 18454 1149 [some (.ref G.2.2.2.2.2.1), some (.ref (G.1 + off 0)), some (.ref (G.1 + off 1000)), some (.int x3)] [.int r1, .int r1] σ2 (fun r _ _ => r = some (.int 1))
  exact J_icmp_eq (pc := 1149) (tgt := 1266) dL_law_1149 (by decide) (fun _ => hk0 σ2 hI2) (fun z => absurd rfl z)
set_option maxHeartbeats 4000000 in
set_option maxRecDepth 100000 in
theorem law_c32 (G : JG) {Inv : Mem → Prop} (hA : AllSteps Inv) (x3 : Int32) (h1 : vp_in (x3 + 1) G.2.2.2.2.2.2.1) (h2 : vp_in (x3 + 2) G.2.2.2.2.2.2.1) (h3 : vp_in (x3 + 3) G.2.2.2.2.2.2.1) (h4 : vp_in (x3 + 4) G.2.2.2.2.2.2.1) (h5 : vp_in (x3 + 5) G.2.2.2.2.2.2.1) (hk0 : ∀ σ, Inv σ → J G mL_law (120 + 1) 600000 7302250 SH 200 18454 1266 [some (.ref G.2.2.2.2.2.1), some (.ref (G.1 + off 0)), some (.ref (G.1 + off 1000)), some (.int x3)] [] σ (fun r _ _ => r = some (.int 1))) (σ : Mem) (hI : Inv σ) : J G mL_law (120 + 1) 600000 7302250 SH 200 18454 1154 [some (.ref G.2.2.2.2.2.1), some (.ref (G.1 + off 0)), some (.ref (G.1 + off 1000)), some (.int x3)] [] σ (fun r _ _ => r = some (.int 1)) := by
  obtain ⟨fkC, hfC⟩ := shX11
  obtain ⟨fkM, hfM⟩ := shX12
  refine J_aload_n (pc := 1154) dL_law_1154 rfl ?_
  refine J_aload_n (pc := 1155) dL_law_1155 rfl ?_
  refine J_iload_n (pc := 1156) dL_law_1156 rfl ?_
  refine J_iconst (pc := 1157) (v := 1) dL_law_1157 (by decide) ?_
  refine J_iadd (pc := 1158) dL_law_1158 ?_
  refine J_sld (pc := 1159) h1 dL_law_1159 ?_
  refine J_aload_n (pc := 1160) dL_law_1160 rfl ?_
  refine J_iload_n (pc := 1161) dL_law_1161 rfl ?_
  refine J_iconst (pc := 1162) (v := 2) dL_law_1162 (by decide) ?_
  refine J_iadd (pc := 1163) dL_law_1163 ?_
  refine J_sld (pc := 1164) h2 dL_law_1164 ?_
  refine J_aload_n (pc := 1165) dL_law_1165 rfl ?_
  refine J_iload_n (pc := 1166) dL_law_1166 rfl ?_
  refine J_iconst (pc := 1167) (v := 3) dL_law_1167 (by decide) ?_
  refine J_iadd (pc := 1168) dL_law_1168 ?_
  refine J_sld (pc := 1169) h3 dL_law_1169 ?_
  obtain ⟨r1, σ1, σ2, e1, e2, hI2⟩ := st_32 hA (G.2.2.2.2.2.2.2 (x3 + 1).toNatClampNeg) (G.2.2.2.2.2.2.2 (x3 + 2).toNatClampNeg) (G.2.2.2.2.2.2.2 (x3 + 3).toNatClampNeg) σ hI
  refine J_callV (pc := 1170) (o := 0) (K' := fun q sh σ' => sh = SH ∧ (q, σ') = rI (r1, σ1)) [.int (G.2.2.2.2.2.2.2 (x3 + 1).toNatClampNeg), .int (G.2.2.2.2.2.2.2 (x3 + 2).toNatClampNeg), .int (G.2.2.2.2.2.2.2 (x3 + 3).toNatClampNeg)] lk_L_149 rfl (ci := 11) rfl hfC (w_X11_ask G 116 (G.2.2.2.2.2.2.2 (x3 + 1).toNatClampNeg) (G.2.2.2.2.2.2.2 (x3 + 2).toNatClampNeg) (G.2.2.2.2.2.2.2 (x3 + 3).toNatClampNeg) σ (r1, σ1) e1) (fun _ _ _ hk => by rw [hk.1]; rfl) (by decide) (by decide) rfl rfl (Nat.le_of_ble_eq_true rfl) dL_law_1170 (fun q sh' σ' hk => ?_)
  obtain ⟨rfl, hk⟩ := hk
  cases hk
  show J G mL_law (120 + 1) 600000 7302250 SH 200 18454 1173 [some (.ref G.2.2.2.2.2.1), some (.ref (G.1 + off 0)), some (.ref (G.1 + off 1000)), some (.int x3)] [.int r1] σ1 (fun r _ _ => r = some (.int 1))
  refine J_aload_n (pc := 1173) dL_law_1173 rfl ?_
  refine J_aload_n (pc := 1174) dL_law_1174 rfl ?_
  refine J_iload_n (pc := 1175) dL_law_1175 rfl ?_
  refine J_iconst (pc := 1176) (v := 1) dL_law_1176 (by decide) ?_
  refine J_iadd (pc := 1177) dL_law_1177 ?_
  refine J_sld (pc := 1178) h1 dL_law_1178 ?_
  refine J_aload_n (pc := 1179) dL_law_1179 rfl ?_
  refine J_iload_n (pc := 1180) dL_law_1180 rfl ?_
  refine J_iconst (pc := 1181) (v := 2) dL_law_1181 (by decide) ?_
  refine J_iadd (pc := 1182) dL_law_1182 ?_
  refine J_sld (pc := 1183) h2 dL_law_1183 ?_
  refine J_aload_n (pc := 1184) dL_law_1184 rfl ?_
  refine J_iload_n (pc := 1185) dL_law_1185 rfl ?_
  refine J_iconst (pc := 1186) (v := 3) dL_law_1186 (by decide) ?_
  refine J_iadd (pc := 1187) dL_law_1187 ?_
  refine J_sld (pc := 1188) h3 dL_law_1188 ?_
  refine J_callV (pc := 1189) (o := 1000) (K' := fun q sh σ' => sh = SH ∧ (q, σ') = rI (r1, σ2)) [.int (G.2.2.2.2.2.2.2 (x3 + 1).toNatClampNeg), .int (G.2.2.2.2.2.2.2 (x3 + 2).toNatClampNeg), .int (G.2.2.2.2.2.2.2 (x3 + 3).toNatClampNeg)] lk_L_152 rfl (ci := 12) rfl hfM (w_X12_ask G 117 (G.2.2.2.2.2.2.2 (x3 + 1).toNatClampNeg) (G.2.2.2.2.2.2.2 (x3 + 2).toNatClampNeg) (G.2.2.2.2.2.2.2 (x3 + 3).toNatClampNeg) σ1 (r1, σ2) e2) (fun _ _ _ hk => by rw [hk.1]; rfl) (by decide) (by decide) rfl rfl (Nat.le_of_ble_eq_true rfl) dL_law_1189 (fun q sh' σ' hk => ?_)
  obtain ⟨rfl, hk⟩ := hk
  cases hk
  show J G mL_law (120 + 1) 600000 7302250 SH 200 18454 1192 [some (.ref G.2.2.2.2.2.1), some (.ref (G.1 + off 0)), some (.ref (G.1 + off 1000)), some (.int x3)] [.int r1, .int r1] σ2 (fun r _ _ => r = some (.int 1))
  exact J_icmp_eq (pc := 1192) (tgt := 1266) dL_law_1192 (by decide) (fun _ => hk0 σ2 hI2) (fun z => absurd rfl z)
set_option maxHeartbeats 4000000 in
set_option maxRecDepth 100000 in
theorem law_c33 (G : JG) {Inv : Mem → Prop} (hA : AllSteps Inv) (x3 : Int32) (h1 : vp_in (x3 + 1) G.2.2.2.2.2.2.1) (h2 : vp_in (x3 + 2) G.2.2.2.2.2.2.1) (h3 : vp_in (x3 + 3) G.2.2.2.2.2.2.1) (h4 : vp_in (x3 + 4) G.2.2.2.2.2.2.1) (h5 : vp_in (x3 + 5) G.2.2.2.2.2.2.1) (hk0 : ∀ σ, Inv σ → J G mL_law (120 + 1) 600000 7302250 SH 200 18454 1266 [some (.ref G.2.2.2.2.2.1), some (.ref (G.1 + off 0)), some (.ref (G.1 + off 1000)), some (.int x3)] [] σ (fun r _ _ => r = some (.int 1))) (σ : Mem) (hI : Inv σ) : J G mL_law (120 + 1) 600000 7302250 SH 200 18454 1197 [some (.ref G.2.2.2.2.2.1), some (.ref (G.1 + off 0)), some (.ref (G.1 + off 1000)), some (.int x3)] [] σ (fun r _ _ => r = some (.int 1)) := by
  obtain ⟨fkC, hfC⟩ := shX11
  obtain ⟨fkM, hfM⟩ := shX12
  refine J_aload_n (pc := 1197) dL_law_1197 rfl ?_
  refine J_aload_n (pc := 1198) dL_law_1198 rfl ?_
  refine J_iload_n (pc := 1199) dL_law_1199 rfl ?_
  refine J_iconst (pc := 1200) (v := 1) dL_law_1200 (by decide) ?_
  refine J_iadd (pc := 1201) dL_law_1201 ?_
  refine J_sld (pc := 1202) h1 dL_law_1202 ?_
  obtain ⟨r1, σ1, σ2, e1, e2, hI2⟩ := st_33 hA (G.2.2.2.2.2.2.2 (x3 + 1).toNatClampNeg) σ hI
  refine J_callV (pc := 1203) (o := 0) (K' := fun q sh σ' => sh = SH ∧ (q, σ') = rI (r1, σ1)) [.int (G.2.2.2.2.2.2.2 (x3 + 1).toNatClampNeg)] lk_L_153 rfl (ci := 11) rfl hfC (w_X11_image G 118 (G.2.2.2.2.2.2.2 (x3 + 1).toNatClampNeg) σ (r1, σ1) e1) (fun _ _ _ hk => by rw [hk.1]; rfl) (by decide) (by decide) rfl rfl (Nat.le_of_ble_eq_true rfl) dL_law_1203 (fun q sh' σ' hk => ?_)
  obtain ⟨rfl, hk⟩ := hk
  cases hk
  show J G mL_law (120 + 1) 600000 7302250 SH 200 18454 1206 [some (.ref G.2.2.2.2.2.1), some (.ref (G.1 + off 0)), some (.ref (G.1 + off 1000)), some (.int x3)] [.int r1] σ1 (fun r _ _ => r = some (.int 1))
  refine J_aload_n (pc := 1206) dL_law_1206 rfl ?_
  refine J_aload_n (pc := 1207) dL_law_1207 rfl ?_
  refine J_iload_n (pc := 1208) dL_law_1208 rfl ?_
  refine J_iconst (pc := 1209) (v := 1) dL_law_1209 (by decide) ?_
  refine J_iadd (pc := 1210) dL_law_1210 ?_
  refine J_sld (pc := 1211) h1 dL_law_1211 ?_
  refine J_callV (pc := 1212) (o := 1000) (K' := fun q sh σ' => sh = SH ∧ (q, σ') = rI (r1, σ2)) [.int (G.2.2.2.2.2.2.2 (x3 + 1).toNatClampNeg)] lk_L_156 rfl (ci := 12) rfl hfM (w_X12_image G 119 (G.2.2.2.2.2.2.2 (x3 + 1).toNatClampNeg) σ1 (r1, σ2) e2) (fun _ _ _ hk => by rw [hk.1]; rfl) (by decide) (by decide) rfl rfl (Nat.le_of_ble_eq_true rfl) dL_law_1212 (fun q sh' σ' hk => ?_)
  obtain ⟨rfl, hk⟩ := hk
  cases hk
  show J G mL_law (120 + 1) 600000 7302250 SH 200 18454 1215 [some (.ref G.2.2.2.2.2.1), some (.ref (G.1 + off 0)), some (.ref (G.1 + off 1000)), some (.int x3)] [.int r1, .int r1] σ2 (fun r _ _ => r = some (.int 1))
  exact J_icmp_eq (pc := 1215) (tgt := 1266) dL_law_1215 (by decide) (fun _ => hk0 σ2 hI2) (fun z => absurd rfl z)
set_option maxHeartbeats 4000000 in
set_option maxRecDepth 100000 in
theorem law_c34 (G : JG) {Inv : Mem → Prop} (hA : AllSteps Inv) (x3 : Int32) (h1 : vp_in (x3 + 1) G.2.2.2.2.2.2.1) (h2 : vp_in (x3 + 2) G.2.2.2.2.2.2.1) (h3 : vp_in (x3 + 3) G.2.2.2.2.2.2.1) (h4 : vp_in (x3 + 4) G.2.2.2.2.2.2.1) (h5 : vp_in (x3 + 5) G.2.2.2.2.2.2.1) (hk0 : ∀ σ, Inv σ → J G mL_law (120 + 1) 600000 7302250 SH 200 18454 1266 [some (.ref G.2.2.2.2.2.1), some (.ref (G.1 + off 0)), some (.ref (G.1 + off 1000)), some (.int x3)] [] σ (fun r _ _ => r = some (.int 1))) (σ : Mem) (hI : Inv σ) : J G mL_law (120 + 1) 600000 7302250 SH 200 18454 1220 [some (.ref G.2.2.2.2.2.1), some (.ref (G.1 + off 0)), some (.ref (G.1 + off 1000)), some (.int x3)] [] σ (fun r _ _ => r = some (.int 1)) := by
  obtain ⟨fkC, hfC⟩ := shX11
  obtain ⟨fkM, hfM⟩ := shX12
  refine J_aload_n (pc := 1220) dL_law_1220 rfl ?_
  refine J_aload_n (pc := 1221) dL_law_1221 rfl ?_
  refine J_iload_n (pc := 1222) dL_law_1222 rfl ?_
  refine J_iconst (pc := 1223) (v := 1) dL_law_1223 (by decide) ?_
  refine J_iadd (pc := 1224) dL_law_1224 ?_
  refine J_sld (pc := 1225) h1 dL_law_1225 ?_
  obtain ⟨r1, σ1, σ2, e1, e2, hI2⟩ := st_34 hA (G.2.2.2.2.2.2.2 (x3 + 1).toNatClampNeg) σ hI
  refine J_callV (pc := 1226) (o := 0) (K' := fun q sh σ' => sh = SH ∧ (q, σ') = rI (r1, σ1)) [.int (G.2.2.2.2.2.2.2 (x3 + 1).toNatClampNeg)] lk_L_157 rfl (ci := 11) rfl hfC (w_X11_back G 117 (G.2.2.2.2.2.2.2 (x3 + 1).toNatClampNeg) σ (r1, σ1) e1) (fun _ _ _ hk => by rw [hk.1]; rfl) (by decide) (by decide) rfl rfl (Nat.le_of_ble_eq_true rfl) dL_law_1226 (fun q sh' σ' hk => ?_)
  obtain ⟨rfl, hk⟩ := hk
  cases hk
  show J G mL_law (120 + 1) 600000 7302250 SH 200 18454 1229 [some (.ref G.2.2.2.2.2.1), some (.ref (G.1 + off 0)), some (.ref (G.1 + off 1000)), some (.int x3)] [.int r1] σ1 (fun r _ _ => r = some (.int 1))
  refine J_aload_n (pc := 1229) dL_law_1229 rfl ?_
  refine J_aload_n (pc := 1230) dL_law_1230 rfl ?_
  refine J_iload_n (pc := 1231) dL_law_1231 rfl ?_
  refine J_iconst (pc := 1232) (v := 1) dL_law_1232 (by decide) ?_
  refine J_iadd (pc := 1233) dL_law_1233 ?_
  refine J_sld (pc := 1234) h1 dL_law_1234 ?_
  refine J_callV (pc := 1235) (o := 1000) (K' := fun q sh σ' => sh = SH ∧ (q, σ') = rI (r1, σ2)) [.int (G.2.2.2.2.2.2.2 (x3 + 1).toNatClampNeg)] lk_L_160 rfl (ci := 12) rfl hfM (w_X12_back G 119 (G.2.2.2.2.2.2.2 (x3 + 1).toNatClampNeg) σ1 (r1, σ2) e2) (fun _ _ _ hk => by rw [hk.1]; rfl) (by decide) (by decide) rfl rfl (Nat.le_of_ble_eq_true rfl) dL_law_1235 (fun q sh' σ' hk => ?_)
  obtain ⟨rfl, hk⟩ := hk
  cases hk
  show J G mL_law (120 + 1) 600000 7302250 SH 200 18454 1238 [some (.ref G.2.2.2.2.2.1), some (.ref (G.1 + off 0)), some (.ref (G.1 + off 1000)), some (.int x3)] [.int r1, .int r1] σ2 (fun r _ _ => r = some (.int 1))
  exact J_icmp_eq (pc := 1238) (tgt := 1266) dL_law_1238 (by decide) (fun _ => hk0 σ2 hI2) (fun z => absurd rfl z)
set_option maxHeartbeats 4000000 in
set_option maxRecDepth 100000 in
theorem law_c35 (G : JG) {Inv : Mem → Prop} (hA : AllSteps Inv) (x3 : Int32) (h1 : vp_in (x3 + 1) G.2.2.2.2.2.2.1) (h2 : vp_in (x3 + 2) G.2.2.2.2.2.2.1) (h3 : vp_in (x3 + 3) G.2.2.2.2.2.2.1) (h4 : vp_in (x3 + 4) G.2.2.2.2.2.2.1) (h5 : vp_in (x3 + 5) G.2.2.2.2.2.2.1) (hk0 : ∀ σ, Inv σ → J G mL_law (120 + 1) 600000 7302250 SH 200 18454 1266 [some (.ref G.2.2.2.2.2.1), some (.ref (G.1 + off 0)), some (.ref (G.1 + off 1000)), some (.int x3)] [] σ (fun r _ _ => r = some (.int 1))) (σ : Mem) (hI : Inv σ) : J G mL_law (120 + 1) 600000 7302250 SH 200 18454 1243 [some (.ref G.2.2.2.2.2.1), some (.ref (G.1 + off 0)), some (.ref (G.1 + off 1000)), some (.int x3)] [] σ (fun r _ _ => r = some (.int 1)) := by
  obtain ⟨fkC, hfC⟩ := shX11
  obtain ⟨fkM, hfM⟩ := shX12
  refine J_aload_n (pc := 1243) dL_law_1243 rfl ?_
  refine J_aload_n (pc := 1244) dL_law_1244 rfl ?_
  refine J_iload_n (pc := 1245) dL_law_1245 rfl ?_
  refine J_iconst (pc := 1246) (v := 1) dL_law_1246 (by decide) ?_
  refine J_iadd (pc := 1247) dL_law_1247 ?_
  refine J_sld (pc := 1248) h1 dL_law_1248 ?_
  obtain ⟨r1, σ1, σ2, e1, e2, hI2⟩ := st_35 hA (G.2.2.2.2.2.2.2 (x3 + 1).toNatClampNeg) σ hI
  refine J_callV (pc := 1249) (o := 0) (K' := fun q sh σ' => sh = SH ∧ (q, σ') = rI (r1, σ1)) [.int (G.2.2.2.2.2.2.2 (x3 + 1).toNatClampNeg)] lk_L_161 rfl (ci := 11) rfl hfC (w_X11_about G 119 (G.2.2.2.2.2.2.2 (x3 + 1).toNatClampNeg) σ (r1, σ1) e1) (fun _ _ _ hk => by rw [hk.1]; rfl) (by decide) (by decide) rfl rfl (Nat.le_of_ble_eq_true rfl) dL_law_1249 (fun q sh' σ' hk => ?_)
  obtain ⟨rfl, hk⟩ := hk
  cases hk
  show J G mL_law (120 + 1) 600000 7302250 SH 200 18454 1252 [some (.ref G.2.2.2.2.2.1), some (.ref (G.1 + off 0)), some (.ref (G.1 + off 1000)), some (.int x3)] [.int r1] σ1 (fun r _ _ => r = some (.int 1))
  refine J_aload_n (pc := 1252) dL_law_1252 rfl ?_
  refine J_aload_n (pc := 1253) dL_law_1253 rfl ?_
  refine J_iload_n (pc := 1254) dL_law_1254 rfl ?_
  refine J_iconst (pc := 1255) (v := 1) dL_law_1255 (by decide) ?_
  refine J_iadd (pc := 1256) dL_law_1256 ?_
  refine J_sld (pc := 1257) h1 dL_law_1257 ?_
  refine J_callV (pc := 1258) (o := 1000) (K' := fun q sh σ' => sh = SH ∧ (q, σ') = rI (r1, σ2)) [.int (G.2.2.2.2.2.2.2 (x3 + 1).toNatClampNeg)] lk_L_164 rfl (ci := 12) rfl hfM (w_X12_about G 118 (G.2.2.2.2.2.2.2 (x3 + 1).toNatClampNeg) σ1 (r1, σ2) e2) (fun _ _ _ hk => by rw [hk.1]; rfl) (by decide) (by decide) rfl rfl (Nat.le_of_ble_eq_true rfl) dL_law_1258 (fun q sh' σ' hk => ?_)
  obtain ⟨rfl, hk⟩ := hk
  cases hk
  show J G mL_law (120 + 1) 600000 7302250 SH 200 18454 1261 [some (.ref G.2.2.2.2.2.1), some (.ref (G.1 + off 0)), some (.ref (G.1 + off 1000)), some (.int x3)] [.int r1, .int r1] σ2 (fun r _ _ => r = some (.int 1))
  exact J_icmp_eq (pc := 1261) (tgt := 1266) dL_law_1261 (by decide) (fun _ => hk0 σ2 hI2) (fun z => absurd rfl z)
theorem nI6 {x3 : Int32} {i N : Nat} (j : Nat) (hx : x3 = nI i) (h : i + j < N) (hN : N < 2 ^ 31) : vp_in (x3 + nI j) N := by
  rw [hx, nI_add]
  exact vp_in_nI h hN
set_option maxHeartbeats 4000000 in
set_option maxRecDepth 100000 in
theorem law_loop (G : JG) {Inv : Mem → Prop} (hA : AllSteps Inv) (hL : G.2.2.2.2.2.2.1 ≤ 3072) : ∀ (n i : Nat) (x3 : Int32) (σ : Mem), G.2.2.2.2.2.2.1 < 6 * n + i → i ≤ G.2.2.2.2.2.2.1 + 6 → x3 = nI i → Inv σ → J G mL_law (120 + 1) 600000 7302250 SH 200 18454 18 [some (.ref G.2.2.2.2.2.1), some (.ref (G.1 + off 0)), some (.ref (G.1 + off 1000)), some (.int x3)] [] σ (fun r _ _ => r = some (.int 1)) := by
  intro n
  induction n with
  | zero =>
    intro i x3 σ g1 g2 hx hI
    refine J_iload_n (pc := 18) dL_law_18 rfl ?_
    refine J_aload_n (pc := 19) dL_law_19 rfl ?_
    refine J_slen (pc := 20) rfl dL_law_20 ?_
    refine J_bipush (pc := 21) (v := 6) dL_law_21 (by decide) ?_
    refine J_isub (pc := 23) dL_law_23 ?_
    refine J_icmp_gt (pc := 24) (tgt := 1272) dL_law_24 (by decide) (fun _ => ?_) (fun z => absurd ?_ z)
    · refine J_iconst (pc := 1272) (v := 1) dL_law_1272 (by decide) ?_
      exact J_retz (pc := 1273) rfl dL_law_1273 (by decide) rfl
    · rw [hx]
      exact lw_gt (by omega) (by omega) (by omega)
  | succ n ih =>
    intro i x3 σ g1 g2 hx hI
    refine J_iload_n (pc := 18) dL_law_18 rfl ?_
    refine J_aload_n (pc := 19) dL_law_19 rfl ?_
    refine J_slen (pc := 20) rfl dL_law_20 ?_
    refine J_bipush (pc := 21) (v := 6) dL_law_21 (by decide) ?_
    refine J_isub (pc := 23) dL_law_23 ?_
    refine J_icmp_gt (pc := 24) (tgt := 1272) dL_law_24 (by decide) (fun _ => ?_) (fun z => ?_)
    · refine J_iconst (pc := 1272) (v := 1) dL_law_1272 (by decide) ?_
      exact J_retz (pc := 1273) rfl dL_law_1273 (by decide) rfl
    · have hi : i + 6 ≤ G.2.2.2.2.2.2.1 := by
        rcases Nat.lt_or_ge G.2.2.2.2.2.2.1 (i + 6) with q | q
        · exact absurd (by rw [hx]; exact lw_gt q (by omega) (by omega)) z
        · exact q
      have h0 : vp_in x3 G.2.2.2.2.2.2.1 := by rw [hx]; exact vp_in_nI (by omega) (by omega)
      have h1 := nI6 1 hx (N := G.2.2.2.2.2.2.1) (by omega) (by omega)
      have h2 := nI6 2 hx (N := G.2.2.2.2.2.2.1) (by omega) (by omega)
      have h3 := nI6 3 hx (N := G.2.2.2.2.2.2.1) (by omega) (by omega)
      have h4 := nI6 4 hx (N := G.2.2.2.2.2.2.1) (by omega) (by omega)
      have h5 := nI6 5 hx (N := G.2.2.2.2.2.2.1) (by omega) (by omega)
      have hk0 : ∀ σ, Inv σ → J G mL_law (120 + 1) 600000 7302250 SH 200 18454 1266 [some (.ref G.2.2.2.2.2.1), some (.ref (G.1 + off 0)), some (.ref (G.1 + off 1000)), some (.int x3)] [] σ (fun r _ _ => r = some (.int 1)) := by
        intro σ hI
        refine J_iinc (pc := 1266) (v := x3) (v' := x3 + 6) (L' := [some (.ref G.2.2.2.2.2.1), some (.ref (G.1 + off 0)), some (.ref (G.1 + off 1000)), some (.int (x3 + 6))]) dL_law_1266 rfl rfl (by rfl) rfl rfl ?_
        refine J_goto (pc := 1269) (tgt := 18) dL_law_1269 (by decide) ?_
        exact ih (i + 6) (x3 + 6) σ (by omega) (by omega) (by rw [hx]; exact nI_add i 6) hI
      refine J_aload_n (pc := 27) dL_law_27 rfl ?_
      refine J_iload_n (pc := 28) dL_law_28 rfl ?_
      refine J_sld (pc := 29) h0 dL_law_29 ?_
      refine J_bipush (pc := 30) (v := 63) dL_law_30 (by decide) ?_
      refine J_iand (pc := 32) dL_law_32 ?_
      generalize G.2.2.2.2.2.2.2 x3.toNatClampNeg &&& 63 = w
      by_cases hc0 : w = 0
      · rw [hc0]
        exact J_tin (pc := 33) (tgt := 192) dL_law_33 (by decide) (by decide) rfl (by decide) (law_c0 G hA x3 h1 h2 h3 h4 h5 hk0 σ hI)
      by_cases hc1 : w = 1
      · rw [hc1]
        exact J_tin (pc := 33) (tgt := 255) dL_law_33 (by decide) (by decide) rfl (by decide) (law_c1 G hA x3 h1 h2 h3 h4 h5 hk0 σ hI)
      by_cases hc2 : w = 2
      · rw [hc2]
        exact J_tin (pc := 33) (tgt := 278) dL_law_33 (by decide) (by decide) rfl (by decide) (law_c2 G hA x3 h1 h2 h3 h4 h5 hk0 σ hI)
      by_cases hc3 : w = 3
      · rw [hc3]
        exact J_tin (pc := 33) (tgt := 291) dL_law_33 (by decide) (by decide) rfl (by decide) (law_c3 G hA x3 h1 h2 h3 h4 h5 hk0 σ hI)
      by_cases hc4 : w = 4
      · rw [hc4]
        exact J_tin (pc := 33) (tgt := 314) dL_law_33 (by decide) (by decide) rfl (by decide) (law_c4 G hA x3 h1 h2 h3 h4 h5 hk0 σ hI)
      by_cases hc5 : w = 5
      · rw [hc5]
        exact J_tin (pc := 33) (tgt := 347) dL_law_33 (by decide) (by decide) rfl (by decide) (law_c5 G hA x3 h1 h2 h3 h4 h5 hk0 σ hI)
      by_cases hc6 : w = 6
      · rw [hc6]
        exact J_tin (pc := 33) (tgt := 380) dL_law_33 (by decide) (by decide) rfl (by decide) (law_c6 G hA x3 h1 h2 h3 h4 h5 hk0 σ hI)
      by_cases hc7 : w = 7
      · rw [hc7]
        exact J_tin (pc := 33) (tgt := 429) dL_law_33 (by decide) (by decide) rfl (by decide) (law_c7 G hA x3 h1 h2 h3 h4 h5 hk0 σ hI)
      by_cases hc8 : w = 8
      · rw [hc8]
        exact J_tin (pc := 33) (tgt := 462) dL_law_33 (by decide) (by decide) rfl (by decide) (law_c8 G hA x3 h1 h2 h3 h4 h5 hk0 σ hI)
      by_cases hc9 : w = 9
      · rw [hc9]
        exact J_tin (pc := 33) (tgt := 485) dL_law_33 (by decide) (by decide) rfl (by decide) (law_c9 G hA x3 h1 h2 h3 h4 h5 hk0 σ hI)
      by_cases hc10 : w = 10
      · rw [hc10]
        exact J_tin (pc := 33) (tgt := 518) dL_law_33 (by decide) (by decide) rfl (by decide) (law_c10 G hA x3 h1 h2 h3 h4 h5 hk0 σ hI)
      by_cases hc11 : w = 11
      · rw [hc11]
        exact J_tin (pc := 33) (tgt := 551) dL_law_33 (by decide) (by decide) rfl (by decide) (law_c11 G hA x3 h1 h2 h3 h4 h5 hk0 σ hI)
      by_cases hc12 : w = 12
      · rw [hc12]
        exact J_tin (pc := 33) (tgt := 574) dL_law_33 (by decide) (by decide) rfl (by decide) (law_c12 G hA x3 h1 h2 h3 h4 h5 hk0 σ hI)
      by_cases hc13 : w = 13
      · rw [hc13]
        exact J_tin (pc := 33) (tgt := 607) dL_law_33 (by decide) (by decide) rfl (by decide) (law_c13 G hA x3 h1 h2 h3 h4 h5 hk0 σ hI)
      by_cases hc14 : w = 14
      · rw [hc14]
        exact J_tin (pc := 33) (tgt := 620) dL_law_33 (by decide) (by decide) rfl (by decide) (law_c14 G hA x3 h1 h2 h3 h4 h5 hk0 σ hI)
      by_cases hc15 : w = 15
      · rw [hc15]
        exact J_tin (pc := 33) (tgt := 633) dL_law_33 (by decide) (by decide) rfl (by decide) (law_c15 G hA x3 h1 h2 h3 h4 h5 hk0 σ hI)
      by_cases hc16 : w = 16
      · rw [hc16]
        exact J_tin (pc := 33) (tgt := 646) dL_law_33 (by decide) (by decide) rfl (by decide) (law_c16 G hA x3 h1 h2 h3 h4 h5 hk0 σ hI)
      by_cases hc17 : w = 17
      · rw [hc17]
        exact J_tin (pc := 33) (tgt := 689) dL_law_33 (by decide) (by decide) rfl (by decide) (law_c17 G hA x3 h1 h2 h3 h4 h5 hk0 σ hI)
      by_cases hc18 : w = 18
      · rw [hc18]
        exact J_tin (pc := 33) (tgt := 722) dL_law_33 (by decide) (by decide) rfl (by decide) (law_c18 G hA x3 h1 h2 h3 h4 h5 hk0 σ hI)
      by_cases hc19 : w = 19
      · rw [hc19]
        exact J_tin (pc := 33) (tgt := 765) dL_law_33 (by decide) (by decide) rfl (by decide) (law_c19 G hA x3 h1 h2 h3 h4 h5 hk0 σ hI)
      by_cases hc20 : w = 20
      · rw [hc20]
        exact J_tin (pc := 33) (tgt := 808) dL_law_33 (by decide) (by decide) rfl (by decide) (law_c20 G hA x3 h1 h2 h3 h4 h5 hk0 σ hI)
      by_cases hc21 : w = 21
      · rw [hc21]
        exact J_tin (pc := 33) (tgt := 851) dL_law_33 (by decide) (by decide) rfl (by decide) (law_c21 G hA x3 h1 h2 h3 h4 h5 hk0 σ hI)
      by_cases hc22 : w = 22
      · rw [hc22]
        exact J_tin (pc := 33) (tgt := 874) dL_law_33 (by decide) (by decide) rfl (by decide) (law_c22 G hA x3 h1 h2 h3 h4 h5 hk0 σ hI)
      by_cases hc23 : w = 23
      · rw [hc23]
        exact J_tin (pc := 33) (tgt := 887) dL_law_33 (by decide) (by decide) rfl (by decide) (law_c23 G hA x3 h1 h2 h3 h4 h5 hk0 σ hI)
      by_cases hc24 : w = 24
      · rw [hc24]
        exact J_tin (pc := 33) (tgt := 900) dL_law_33 (by decide) (by decide) rfl (by decide) (law_c24 G hA x3 h1 h2 h3 h4 h5 hk0 σ hI)
      by_cases hc25 : w = 25
      · rw [hc25]
        exact J_tin (pc := 33) (tgt := 943) dL_law_33 (by decide) (by decide) rfl (by decide) (law_c25 G hA x3 h1 h2 h3 h4 h5 hk0 σ hI)
      by_cases hc26 : w = 26
      · rw [hc26]
        exact J_tin (pc := 33) (tgt := 986) dL_law_33 (by decide) (by decide) rfl (by decide) (law_c26 G hA x3 h1 h2 h3 h4 h5 hk0 σ hI)
      by_cases hc27 : w = 27
      · rw [hc27]
        exact J_tin (pc := 33) (tgt := 1009) dL_law_33 (by decide) (by decide) rfl (by decide) (law_c27 G hA x3 h1 h2 h3 h4 h5 hk0 σ hI)
      by_cases hc28 : w = 28
      · rw [hc28]
        exact J_tin (pc := 33) (tgt := 1052) dL_law_33 (by decide) (by decide) rfl (by decide) (law_c28 G hA x3 h1 h2 h3 h4 h5 hk0 σ hI)
      by_cases hc29 : w = 29
      · rw [hc29]
        exact J_tin (pc := 33) (tgt := 1075) dL_law_33 (by decide) (by decide) rfl (by decide) (law_c29 G hA x3 h1 h2 h3 h4 h5 hk0 σ hI)
      by_cases hc30 : w = 30
      · rw [hc30]
        exact J_tin (pc := 33) (tgt := 1098) dL_law_33 (by decide) (by decide) rfl (by decide) (law_c30 G hA x3 h1 h2 h3 h4 h5 hk0 σ hI)
      by_cases hc31 : w = 31
      · rw [hc31]
        exact J_tin (pc := 33) (tgt := 1131) dL_law_33 (by decide) (by decide) rfl (by decide) (law_c31 G hA x3 h1 h2 h3 h4 h5 hk0 σ hI)
      by_cases hc32 : w = 32
      · rw [hc32]
        exact J_tin (pc := 33) (tgt := 1154) dL_law_33 (by decide) (by decide) rfl (by decide) (law_c32 G hA x3 h1 h2 h3 h4 h5 hk0 σ hI)
      by_cases hc33 : w = 33
      · rw [hc33]
        exact J_tin (pc := 33) (tgt := 1197) dL_law_33 (by decide) (by decide) rfl (by decide) (law_c33 G hA x3 h1 h2 h3 h4 h5 hk0 σ hI)
      by_cases hc34 : w = 34
      · rw [hc34]
        exact J_tin (pc := 33) (tgt := 1220) dL_law_33 (by decide) (by decide) rfl (by decide) (law_c34 G hA x3 h1 h2 h3 h4 h5 hk0 σ hI)
      by_cases hc35 : w = 35
      · rw [hc35]
        exact J_tin (pc := 33) (tgt := 1243) dL_law_33 (by decide) (by decide) rfl (by decide) (law_c35 G hA x3 h1 h2 h3 h4 h5 hk0 σ hI)
      have z0 : w.toInt ≠ 0 := ne_toInt hc0
      have z1 : w.toInt ≠ 1 := ne_toInt hc1
      have z2 : w.toInt ≠ 2 := ne_toInt hc2
      have z3 : w.toInt ≠ 3 := ne_toInt hc3
      have z4 : w.toInt ≠ 4 := ne_toInt hc4
      have z5 : w.toInt ≠ 5 := ne_toInt hc5
      have z6 : w.toInt ≠ 6 := ne_toInt hc6
      have z7 : w.toInt ≠ 7 := ne_toInt hc7
      have z8 : w.toInt ≠ 8 := ne_toInt hc8
      have z9 : w.toInt ≠ 9 := ne_toInt hc9
      have z10 : w.toInt ≠ 10 := ne_toInt hc10
      have z11 : w.toInt ≠ 11 := ne_toInt hc11
      have z12 : w.toInt ≠ 12 := ne_toInt hc12
      have z13 : w.toInt ≠ 13 := ne_toInt hc13
      have z14 : w.toInt ≠ 14 := ne_toInt hc14
      have z15 : w.toInt ≠ 15 := ne_toInt hc15
      have z16 : w.toInt ≠ 16 := ne_toInt hc16
      have z17 : w.toInt ≠ 17 := ne_toInt hc17
      have z18 : w.toInt ≠ 18 := ne_toInt hc18
      have z19 : w.toInt ≠ 19 := ne_toInt hc19
      have z20 : w.toInt ≠ 20 := ne_toInt hc20
      have z21 : w.toInt ≠ 21 := ne_toInt hc21
      have z22 : w.toInt ≠ 22 := ne_toInt hc22
      have z23 : w.toInt ≠ 23 := ne_toInt hc23
      have z24 : w.toInt ≠ 24 := ne_toInt hc24
      have z25 : w.toInt ≠ 25 := ne_toInt hc25
      have z26 : w.toInt ≠ 26 := ne_toInt hc26
      have z27 : w.toInt ≠ 27 := ne_toInt hc27
      have z28 : w.toInt ≠ 28 := ne_toInt hc28
      have z29 : w.toInt ≠ 29 := ne_toInt hc29
      have z30 : w.toInt ≠ 30 := ne_toInt hc30
      have z31 : w.toInt ≠ 31 := ne_toInt hc31
      have z32 : w.toInt ≠ 32 := ne_toInt hc32
      have z33 : w.toInt ≠ 33 := ne_toInt hc33
      have z34 : w.toInt ≠ 34 := ne_toInt hc34
      have z35 : w.toInt ≠ 35 := ne_toInt hc35
      exact J_tout (pc := 33) (tgt := 1266) dL_law_33 (by omega) (by decide) (hk0 σ hI)
