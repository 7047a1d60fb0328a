/-! THE LAW, walked: the loop's cases, then the loop -/
set_option maxHeartbeats 8000000 in
set_option maxRecDepth 100000 in
theorem LWC0 {p : Program} {e : Env} {s : State} {m : MethodId} {below : List Frame} {meth : Method} {c : Code} (l : Launch) (hst : l.stackTraces = false) {b L : Nat} {xs : Nat → Int32} (hL : L ≤ 2048) (C0 : lw_At p s m meth c b L xs) (g : az_G) (sa : Nat → Nat) (ax an au : Nat → Nat) (aw : Nat → Nat → Nat) (ob : Nat) (ad : Nat → Nat) (hX : va_X b L xs s s.heap) (hbl : b < s.heap.size) (hbA : ¬ (fun q : Nat => s.heap.size ≤ q) b) (hcx : az_cx sa (fun q : Nat => s.heap.size ≤ q) s s.heap) (hA : ∀ q : Nat, s.heap.size ≤ q → (fun q : Nat => s.heap.size ≤ q) q) (hK : va_K g.1 az_cl (az_tys g) s) (hts : ∀ w ∈ wsL_law, w.before #[Value.ref b] s = true) (n : Nat) (ih : ∀ (cn sn : Nat) (V T : az_St) (S : Nat → az_St) (hs : Nat → Int32) (Mo : az_St) (f : Nat → Int64) (y4 : Int32) (H : Heap) (locs : List Loc) (ls : Array Slot), cn + 6 * n ≤ 5000 → sn + 36 * n ≤ 60000 → F_law_L n xs L V T S hs Mo f y4 = some 1 → va_P g.1 az_cl (((az_ou g ob f :: az_wF g ax an au aw V T S hs) ++ az_cM g ad Mo)) H → va_D (fun q : Nat => s.heap.size ≤ q) (((az_ou g ob f :: az_wF g ax an au aw V T S hs) ++ az_cM g ad Mo)) → va_S (fun q : Nat => s.heap.size ≤ q) s.heap H locs → lv_has ls 7 [(0, .ref (b)), (1, .ref (ax 0)), (2, .ref (ad 0)), (3, .ref (ob)), (4, .int y4)] → W p l e room_1 s m #[Value.ref b] below meth c H locs cn sn (lw_Z below #[Value.ref b] s) (F0 m 23 ls [])) : ∀ (cn sn : Nat) (V T : az_St) (S : Nat → az_St) (hs : Nat → Int32) (Mo : az_St) (f : Nat → Int64) (y4 : Int32) (H : Heap) (locs : List Loc) (ls : Array Slot), cn + 6 * (n + 1) ≤ 5000 → sn + 36 * (n + 1) ≤ 60000 → ¬ ((Int32.ofNat L) - (4 : Int32) < y4) → az_in y4 L = true → F_law_C0 (fun V T S hs Mo f y4 => F_law_L n xs L V T S hs Mo f y4) xs L V T S hs Mo f y4 = some 1 → va_P g.1 az_cl (((az_ou g ob f :: az_wF g ax an au aw V T S hs) ++ az_cM g ad Mo)) H → va_D (fun q : Nat => s.heap.size ≤ q) (((az_ou g ob f :: az_wF g ax an au aw V T S hs) ++ az_cM g ad Mo)) → va_S (fun q : Nat => s.heap.size ≤ q) s.heap H locs → lv_has ls 7 [(0, .ref (b)), (1, .ref (ax 0)), (2, .ref (ad 0)), (3, .ref (ob)), (4, .int y4)] → W p l e room_1 s m #[Value.ref b] below meth c H locs cn sn (lw_Z below #[Value.ref b] s) (F0 m 236 ls []) := by
  intro cn sn V T S hs Mo f y4 H locs ls hcn hsn c29 i35 h hP hD hS hl
  obtain ⟨hx, hb, hr, hml, hown, -, -, -, hlocks, -⟩ := id C0
  unfold F_law_C0 at h
  obtain ⟨A, eA⟩ : ∃ A : Nat → Prop, A = (fun q : Nat => s.heap.size ≤ q) := ⟨_, rfl⟩
  rw [← eA] at hbA hcx hA hD hS ih
  refine lv_aload_n hx hb dL_law_236 rfl (lv_at hl 1 rfl) ?_
  refine lv_aload_n hx hb dL_law_237 rfl (lv_at hl 0 rfl) ?_
  refine lv_iload hx hb dL_law_238 (lv_at hl 4 rfl) ?_
  refine lv_iconst (v := (1 : Int32)) hx hb dL_law_240 (by decide) ?_
  refine lv_iadd hx hb dL_law_241 ?_
  obtain ⟨i242, h⟩ := az_ite h
  refine va_sld hx hb hX hbl hbA hS (az_vin i242) dL_law_242 ?_
  refine lv_aload_n hx hb dL_law_243 rfl (lv_at hl 0 rfl) ?_
  refine lv_iload hx hb dL_law_244 (lv_at hl 4 rfl) ?_
  refine lv_iconst (v := (2 : Int32)) hx hb dL_law_246 (by decide) ?_
  refine lv_iadd hx hb dL_law_247 ?_
  obtain ⟨i248, h⟩ := az_ite h
  refine va_sld hx hb hX hbl hbA hS (az_vin i248) dL_law_248 ?_
  refine lv_aload_n hx hb dL_law_249 rfl (lv_at hl 0 rfl) ?_
  refine lv_iload hx hb dL_law_250 (lv_at hl 4 rfl) ?_
  refine lv_iconst (v := (3 : Int32)) hx hb dL_law_252 (by decide) ?_
  refine lv_iadd hx hb dL_law_253 ?_
  obtain ⟨i254, h⟩ := az_ite h
  refine va_sld hx hb hX hbl hbA hS (az_vin i254) dL_law_254 ?_
  obtain ⟨o255, hc255, h⟩ := az_bnd h
  replace hP := az_sndP (w2 := az_wF g ax an au aw V T S hs ++ (az_ou g ob f :: az_cM g ad Mo)) List.perm_middle.symm hP
  replace hD := az_sndD (w2 := az_wF g ax an au aw V T S hs ++ (az_ou g ob f :: az_cM g ad Mo)) List.perm_middle.symm hD
  refine az_callLW (wr := az_ou g ob f :: az_cM g ad Mo) (As := [.ref (ax 0), .int (xs (y4 + (1 : Int32)).toNatClampNeg), .int (xs (y4 + (2 : Int32)).toNatClampNeg), .int (xs (y4 + (3 : Int32)).toNatClampNeg)]) (rest := []) ⟨hx, hb, hml, hown, hts⟩ hl.1 (kL_reset l hst g sa ax an au aw V T S hs (xs (y4 + (1 : Int32)).toNatClampNeg) (xs (y4 + (2 : Int32)).toNatClampNeg) (xs (y4 + (3 : Int32)).toNatClampNeg) o255 hc255) (vx_cwSW (hh := [(0, 7, 10, 13)]) 4 hts gL_law_L_reset rfl rfl rfl (by decide +kernel) ⟨(Nat.le_of_ble_eq_true rfl), (Nat.le_of_ble_eq_true rfl)⟩) rfl hK hcx hP hD hS hA (Nat.le_of_ble_eq_true rfl) dL_law_255 ⟨by show _ ≤ 601024; omega, by show _ ≤ 7293034; omega⟩ rfl (fun H locs hP hD hS => ?_)
  replace hP := az_sndP List.perm_middle hP
  replace hD := az_sndD List.perm_middle hD
  have hP : va_P g.1 az_cl (((az_ou g ob f :: az_wF g ax an au aw o255.2.1 o255.2.2.1 o255.2.2.2.1 o255.2.2.2.2) ++ az_cM g ad Mo)) _ := hP
  have hD : va_D A (((az_ou g ob f :: az_wF g ax an au aw o255.2.1 o255.2.2.1 o255.2.2.2.1 o255.2.2.2.2) ++ az_cM g ad Mo)) := hD
  refine lv_istore (lv' := [(5, .int o255.1), (0, .ref (b)), (1, .ref (ax 0)), (2, .ref (ad 0)), (3, .ref (ob)), (4, .int y4)]) hx hb dL_law_258 hl (by decide) rfl (fun ls hl => ?_)
  refine lv_aload_n hx hb dL_law_260 rfl (lv_at hl 3 rfl) ?_
  refine lv_aload_n hx hb dL_law_261 rfl (lv_at hl 1 rfl) ?_
  refine lv_iload hx hb dL_law_262 (lv_at hl 5 rfl) ?_
  refine lv_iconst (v := (1 : Int32)) hx hb dL_law_264 (by decide) ?_
  refine lv_iadd hx hb dL_law_265 ?_
  refine va_sld hx hb hX hbl hbA hS (az_vin i242) dL_law_266 ?_
  refine lv_aload_n hx hb dL_law_267 rfl (lv_at hl 1 rfl) ?_
  refine lv_iload hx hb dL_law_268 (lv_at hl 5 rfl) ?_
  refine lv_iconst (v := (2 : Int32)) hx hb dL_law_270 (by decide) ?_
  refine lv_iadd hx hb dL_law_271 ?_
  refine va_sld hx hb hX hbl hbA hS (az_vin i248) dL_law_272 ?_
  refine lv_aload_n hx hb dL_law_273 rfl (lv_at hl 1 rfl) ?_
  refine lv_iload hx hb dL_law_274 (lv_at hl 5 rfl) ?_
  refine lv_iconst (v := (3 : Int32)) hx hb dL_law_276 (by decide) ?_
  refine lv_iadd hx hb dL_law_277 ?_
  refine va_sld hx hb hX hbl hbA hS (az_vin i254) dL_law_278 ?_
  obtain ⟨o279, hc279, h⟩ := az_bnd h
  refine az_callPv (wr := (az_ou g ob f :: az_wF g ax an au aw o255.2.1 o255.2.2.1 o255.2.2.2.1 o255.2.2.2.2)) (w2 := ((az_ou g ob f :: az_wF g ax an au aw o255.2.1 o255.2.2.1 o255.2.2.2.1 o255.2.2.2.2) ++ az_cM g ad (va_up (va_up (va_up Mo 0 o279.1) 1 o279.2.1) 2 o279.2.2))) (As := [.int (xs (y4 + (1 : Int32)).toNatClampNeg), .int (xs (y4 + (2 : Int32)).toNatClampNeg), .int (xs (y4 + (3 : Int32)).toNatClampNeg)]) (rest := []) ⟨hx, hb, hml, hown, hts⟩ hl.1 (kX7_reset l g ad Mo (xs (y4 + (1 : Int32)).toNatClampNeg) (xs (y4 + (2 : Int32)).toNatClampNeg) (xs (y4 + (3 : Int32)).toNatClampNeg) o279 hc279) (cwV 3 hts gL_law_X7_reset rfl rfl rfl (by decide +kernel) ⟨(Nat.le_of_ble_eq_true rfl), (Nat.le_of_ble_eq_true rfl)⟩) rfl hK hP hD hS hA List.perm_append_comm List.perm_append_comm 0 rfl rfl rfl (Nat.le_of_ble_eq_true rfl) dL_law_279 ⟨by show _ ≤ 601024; omega, by show _ ≤ 7293034; omega⟩ rfl (fun H locs hP hD hS => ?_)
  have hP : va_P g.1 az_cl (((az_ou g ob f :: az_wF g ax an au aw o255.2.1 o255.2.2.1 o255.2.2.2.1 o255.2.2.2.2) ++ az_cM g ad (va_up (va_up (va_up Mo 0 o279.1) 1 o279.2.1) 2 o279.2.2))) _ := hP
  have hD : va_D A (((az_ou g ob f :: az_wF g ax an au aw o255.2.1 o255.2.2.1 o255.2.2.2.1 o255.2.2.2.2) ++ az_cM g ad (va_up (va_up (va_up Mo 0 o279.1) 1 o279.2.1) 2 o279.2.2))) := hD
  refine lv_aload_n hx hb dL_law_282 rfl (lv_at hl 3 rfl) ?_
  obtain ⟨o283, hc283, h⟩ := az_bnd h
  refine az_callPi (wr := (az_ou g ob f :: az_wF g ax an au aw o255.2.1 o255.2.2.1 o255.2.2.2.1 o255.2.2.2.2)) (w2 := ((az_ou g ob f :: az_wF g ax an au aw o255.2.1 o255.2.2.1 o255.2.2.2.1 o255.2.2.2.2) ++ az_cM g ad (va_up (va_up (va_up Mo 0 o279.1) 1 o279.2.1) 2 o279.2.2))) (As := []) (rest := []) ⟨hx, hb, hml, hown, hts⟩ hl.1 (kX7_thrown l g ad (va_up (va_up (va_up Mo 0 o279.1) 1 o279.2.1) 2 o279.2.2)  o283 hc283) (cwV 0 hts gL_law_X7_thrown rfl rfl rfl (by decide +kernel) ⟨(Nat.le_of_ble_eq_true rfl), (Nat.le_of_ble_eq_true rfl)⟩) rfl hK hP hD hS hA List.perm_append_comm List.perm_append_comm 0 rfl rfl rfl (Nat.le_of_ble_eq_true rfl) dL_law_283 ⟨by show _ ≤ 601024; omega, by show _ ≤ 7293034; omega⟩ rfl (fun H locs hP hD hS => ?_)
  have hP : va_P g.1 az_cl (((az_ou g ob f :: az_wF g ax an au aw o255.2.1 o255.2.2.1 o255.2.2.2.1 o255.2.2.2.2) ++ az_cM g ad (va_up (va_up (va_up Mo 0 o279.1) 1 o279.2.1) 2 o279.2.2))) _ := hP
  have hD : va_D A (((az_ou g ob f :: az_wF g ax an au aw o255.2.1 o255.2.2.1 o255.2.2.2.1 o255.2.2.2.2) ++ az_cM g ad (va_up (va_up (va_up Mo 0 o279.1) 1 o279.2.1) 2 o279.2.2))) := hD
  refine lv_iload hx hb dL_law_286 (lv_at hl 0 rfl) ?_
  refine lv_icmp_eq (tgt := 293) hx hb dL_law_288 (by decide) (fun c288 => ?_) (fun c288 => ?_)
  · replace h := az_pos c288 h
    refine lv_goto (tgt := 2624) hx hb dL_law_293 (by decide) ?_
    refine lv_iinc (v := y4 + (4 : Int32)) (lv' := [(4, .int (y4 + (4 : Int32))), (5, .int o255.1), (0, .ref (b)), (1, .ref (ax 0)), (2, .ref (ad 0)), (3, .ref (ob))]) hx hb dL_law_2624 hl (k := 5) rfl rfl (by decide) rfl (fun ls hl => ?_)
    refine lv_goto (tgt := 23) hx hb dL_law_2627 (by decide) ?_
    have hP : va_P g.1 az_cl (((az_ou g ob f :: az_wF g ax an au aw o255.2.1 o255.2.2.1 o255.2.2.2.1 o255.2.2.2.2) ++ az_cM g ad (va_up (va_up (va_up Mo 0 o279.1) 1 o279.2.1) 2 o279.2.2))) _ := hP
    have hD : va_D A (((az_ou g ob f :: az_wF g ax an au aw o255.2.1 o255.2.2.1 o255.2.2.2.1 o255.2.2.2.2) ++ az_cM g ad (va_up (va_up (va_up Mo 0 o279.1) 1 o279.2.1) 2 o279.2.2))) := hD
    exact ih _ _ _ _ _ _ _ _ _ _ _ _ (by omega) (by omega) h hP hD hS (lv_sub hl [2, 3, 4, 5, 0] rfl)
  · replace h := az_neg c288 h
    refine lv_iconst (v := (0 : Int32)) hx hb dL_law_291 (by decide) ?_
    exact absurd (Option.some.inj h) (by decide)
set_option maxHeartbeats 8000000 in
set_option maxRecDepth 100000 in
theorem LWC1 {p : Program} {e : Env} {s : State} {m : MethodId} {below : List Frame} {meth : Method} {c : Code} (l : Launch) (hst : l.stackTraces = false) {b L : Nat} {xs : Nat → Int32} (hL : L ≤ 2048) (C0 : lw_At p s m meth c b L xs) (g : az_G) (sa : Nat → Nat) (ax an au : Nat → Nat) (aw : Nat → Nat → Nat) (ob : Nat) (ad : Nat → Nat) (hX : va_X b L xs s s.heap) (hbl : b < s.heap.size) (hbA : ¬ (fun q : Nat => s.heap.size ≤ q) b) (hcx : az_cx sa (fun q : Nat => s.heap.size ≤ q) s s.heap) (hA : ∀ q : Nat, s.heap.size ≤ q → (fun q : Nat => s.heap.size ≤ q) q) (hK : va_K g.1 az_cl (az_tys g) s) (hts : ∀ w ∈ wsL_law, w.before #[Value.ref b] s = true) (n : Nat) (ih : ∀ (cn sn : Nat) (V T : az_St) (S : Nat → az_St) (hs : Nat → Int32) (Mo : az_St) (f : Nat → Int64) (y4 : Int32) (H : Heap) (locs : List Loc) (ls : Array Slot), cn + 6 * n ≤ 5000 → sn + 36 * n ≤ 60000 → F_law_L n xs L V T S hs Mo f y4 = some 1 → va_P g.1 az_cl (((az_ou g ob f :: az_wF g ax an au aw V T S hs) ++ az_cM g ad Mo)) H → va_D (fun q : Nat => s.heap.size ≤ q) (((az_ou g ob f :: az_wF g ax an au aw V T S hs) ++ az_cM g ad Mo)) → va_S (fun q : Nat => s.heap.size ≤ q) s.heap H locs → lv_has ls 7 [(0, .ref (b)), (1, .ref (ax 0)), (2, .ref (ad 0)), (3, .ref (ob)), (4, .int y4)] → W p l e room_1 s m #[Value.ref b] below meth c H locs cn sn (lw_Z below #[Value.ref b] s) (F0 m 23 ls [])) : ∀ (cn sn : Nat) (V T : az_St) (S : Nat → az_St) (hs : Nat → Int32) (Mo : az_St) (f : Nat → Int64) (y4 : Int32) (H : Heap) (locs : List Loc) (ls : Array Slot), cn + 6 * (n + 1) ≤ 5000 → sn + 36 * (n + 1) ≤ 60000 → ¬ ((Int32.ofNat L) - (4 : Int32) < y4) → az_in y4 L = true → F_law_C1 (fun V T S hs Mo f y4 => F_law_L n xs L V T S hs Mo f y4) xs L V T S hs Mo f y4 = some 1 → va_P g.1 az_cl (((az_ou g ob f :: az_wF g ax an au aw V T S hs) ++ az_cM g ad Mo)) H → va_D (fun q : Nat => s.heap.size ≤ q) (((az_ou g ob f :: az_wF g ax an au aw V T S hs) ++ az_cM g ad Mo)) → va_S (fun q : Nat => s.heap.size ≤ q) s.heap H locs → lv_has ls 7 [(0, .ref (b)), (1, .ref (ax 0)), (2, .ref (ad 0)), (3, .ref (ob)), (4, .int y4)] → W p l e room_1 s m #[Value.ref b] below meth c H locs cn sn (lw_Z below #[Value.ref b] s) (F0 m 296 ls []) := by
  intro cn sn V T S hs Mo f y4 H locs ls hcn hsn c29 i35 h hP hD hS hl
  obtain ⟨hx, hb, hr, hml, hown, -, -, -, hlocks, -⟩ := id C0
  unfold F_law_C1 at h
  obtain ⟨A, eA⟩ : ∃ A : Nat → Prop, A = (fun q : Nat => s.heap.size ≤ q) := ⟨_, rfl⟩
  rw [← eA] at hbA hcx hA hD hS ih
  refine lv_aload_n hx hb dL_law_296 rfl (lv_at hl 1 rfl) ?_
  refine lv_aload_n hx hb dL_law_297 rfl (lv_at hl 0 rfl) ?_
  refine lv_iload hx hb dL_law_298 (lv_at hl 4 rfl) ?_
  refine lv_iconst (v := (1 : Int32)) hx hb dL_law_300 (by decide) ?_
  refine lv_iadd hx hb dL_law_301 ?_
  obtain ⟨i302, h⟩ := az_ite h
  refine va_sld hx hb hX hbl hbA hS (az_vin i302) dL_law_302 ?_
  refine lv_aload_n hx hb dL_law_303 rfl (lv_at hl 0 rfl) ?_
  refine lv_iload hx hb dL_law_304 (lv_at hl 4 rfl) ?_
  refine lv_iconst (v := (2 : Int32)) hx hb dL_law_306 (by decide) ?_
  refine lv_iadd hx hb dL_law_307 ?_
  obtain ⟨i308, h⟩ := az_ite h
  refine va_sld hx hb hX hbl hbA hS (az_vin i308) dL_law_308 ?_
  refine lv_aload_n hx hb dL_law_309 rfl (lv_at hl 3 rfl) ?_
  obtain ⟨o310, hc310, h⟩ := az_bnd h
  refine az_callLW (wr := az_cM g ad Mo) (As := [.ref (ax 0), .int (xs (y4 + (1 : Int32)).toNatClampNeg), .int (xs (y4 + (2 : Int32)).toNatClampNeg), .ref (ob)]) (rest := []) ⟨hx, hb, hml, hown, hts⟩ hl.1 (kL_write l hst g sa ax an au aw ob V T S hs f (xs (y4 + (1 : Int32)).toNatClampNeg) (xs (y4 + (2 : Int32)).toNatClampNeg) o310 hc310) (vx_cwSW (hh := [(0, 10, 13, 19), (0, 10, 17, 21)]) 4 hts gL_law_L_write rfl rfl rfl (by decide +kernel) ⟨(Nat.le_of_ble_eq_true rfl), (Nat.le_of_ble_eq_true rfl)⟩) rfl hK hcx hP hD hS hA (Nat.le_of_ble_eq_true rfl) dL_law_310 ⟨by show _ ≤ 601024; omega, by show _ ≤ 7293034; omega⟩ rfl (fun H locs hP hD hS => ?_)
  have hP : va_P g.1 az_cl (((az_ou g ob o310.2.1 :: az_wF g ax an au aw o310.2.2.1 o310.2.2.2.1 o310.2.2.2.2.1 o310.2.2.2.2.2) ++ az_cM g ad Mo)) _ := hP
  have hD : va_D A (((az_ou g ob o310.2.1 :: az_wF g ax an au aw o310.2.2.1 o310.2.2.2.1 o310.2.2.2.2.1 o310.2.2.2.2.2) ++ az_cM g ad Mo)) := hD
  refine lv_istore (lv' := [(5, .int o310.1), (0, .ref (b)), (1, .ref (ax 0)), (2, .ref (ad 0)), (3, .ref (ob)), (4, .int y4)]) hx hb dL_law_313 hl (by decide) rfl (fun ls hl => ?_)
  refine lv_aload_n hx hb dL_law_315 rfl (lv_at hl 3 rfl) ?_
  refine lv_aload_n hx hb dL_law_316 rfl (lv_at hl 1 rfl) ?_
  refine lv_iload hx hb dL_law_317 (lv_at hl 5 rfl) ?_
  refine lv_iconst (v := (1 : Int32)) hx hb dL_law_319 (by decide) ?_
  refine lv_iadd hx hb dL_law_320 ?_
  refine va_sld hx hb hX hbl hbA hS (az_vin i302) dL_law_321 ?_
  refine lv_aload_n hx hb dL_law_322 rfl (lv_at hl 1 rfl) ?_
  refine lv_iload hx hb dL_law_323 (lv_at hl 5 rfl) ?_
  refine lv_iconst (v := (2 : Int32)) hx hb dL_law_325 (by decide) ?_
  refine lv_iadd hx hb dL_law_326 ?_
  refine va_sld hx hb hX hbl hbA hS (az_vin i308) dL_law_327 ?_
  obtain ⟨o328, hc328, h⟩ := az_bnd h
  refine az_callPi (wr := (az_ou g ob o310.2.1 :: az_wF g ax an au aw o310.2.2.1 o310.2.2.2.1 o310.2.2.2.2.1 o310.2.2.2.2.2)) (w2 := ((az_ou g ob o310.2.1 :: az_wF g ax an au aw o310.2.2.1 o310.2.2.2.1 o310.2.2.2.2.1 o310.2.2.2.2.2) ++ az_cM g ad (va_up (va_up (va_up Mo 0 o328.2.1) 1 o328.2.2.1) 2 o328.2.2.2))) (As := [.int (xs (y4 + (1 : Int32)).toNatClampNeg), .int (xs (y4 + (2 : Int32)).toNatClampNeg)]) (rest := []) ⟨hx, hb, hml, hown, hts⟩ hl.1 (kX7_write l g ad Mo (xs (y4 + (1 : Int32)).toNatClampNeg) (xs (y4 + (2 : Int32)).toNatClampNeg) o328 hc328) (cwV 2 hts gL_law_X7_write rfl rfl rfl (by decide +kernel) ⟨(Nat.le_of_ble_eq_true rfl), (Nat.le_of_ble_eq_true rfl)⟩) rfl hK hP hD hS hA List.perm_append_comm List.perm_append_comm 0 rfl rfl rfl (Nat.le_of_ble_eq_true rfl) dL_law_328 ⟨by show _ ≤ 601024; omega, by show _ ≤ 7293034; omega⟩ rfl (fun H locs hP hD hS => ?_)
  have hP : va_P g.1 az_cl (((az_ou g ob o310.2.1 :: az_wF g ax an au aw o310.2.2.1 o310.2.2.2.1 o310.2.2.2.2.1 o310.2.2.2.2.2) ++ az_cM g ad (va_up (va_up (va_up Mo 0 o328.2.1) 1 o328.2.2.1) 2 o328.2.2.2))) _ := hP
  have hD : va_D A (((az_ou g ob o310.2.1 :: az_wF g ax an au aw o310.2.2.1 o310.2.2.2.1 o310.2.2.2.2.1 o310.2.2.2.2.2) ++ az_cM g ad (va_up (va_up (va_up Mo 0 o328.2.1) 1 o328.2.2.1) 2 o328.2.2.2))) := hD
  refine lv_istore (lv' := [(6, .int o328.1), (5, .int o310.1), (0, .ref (b)), (1, .ref (ax 0)), (2, .ref (ad 0)), (3, .ref (ob)), (4, .int y4)]) hx hb dL_law_331 hl (by decide) rfl (fun ls hl => ?_)
  refine lv_aload_n hx hb dL_law_333 rfl (lv_at hl 4 rfl) ?_
  obtain ⟨o334, hc334, h⟩ := az_bnd h
  refine az_callPi (wr := (az_ou g ob o310.2.1 :: az_wF g ax an au aw o310.2.2.1 o310.2.2.2.1 o310.2.2.2.2.1 o310.2.2.2.2.2)) (w2 := ((az_ou g ob o310.2.1 :: az_wF g ax an au aw o310.2.2.1 o310.2.2.2.1 o310.2.2.2.2.1 o310.2.2.2.2.2) ++ az_cM g ad (va_up (va_up (va_up Mo 0 o328.2.1) 1 o328.2.2.1) 2 o328.2.2.2))) (As := []) (rest := []) ⟨hx, hb, hml, hown, hts⟩ hl.1 (kX7_thrown l g ad (va_up (va_up (va_up Mo 0 o328.2.1) 1 o328.2.2.1) 2 o328.2.2.2)  o334 hc334) (cwV 0 hts gL_law_X7_thrown rfl rfl rfl (by decide +kernel) ⟨(Nat.le_of_ble_eq_true rfl), (Nat.le_of_ble_eq_true rfl)⟩) rfl hK hP hD hS hA List.perm_append_comm List.perm_append_comm 0 rfl rfl rfl (Nat.le_of_ble_eq_true rfl) dL_law_334 ⟨by show _ ≤ 601024; omega, by show _ ≤ 7293034; omega⟩ rfl (fun H locs hP hD hS => ?_)
  have hP : va_P g.1 az_cl (((az_ou g ob o310.2.1 :: az_wF g ax an au aw o310.2.2.1 o310.2.2.2.1 o310.2.2.2.2.1 o310.2.2.2.2.2) ++ az_cM g ad (va_up (va_up (va_up Mo 0 o328.2.1) 1 o328.2.2.1) 2 o328.2.2.2))) _ := hP
  have hD : va_D A (((az_ou g ob o310.2.1 :: az_wF g ax an au aw o310.2.2.1 o310.2.2.2.1 o310.2.2.2.2.1 o310.2.2.2.2.2) ++ az_cM g ad (va_up (va_up (va_up Mo 0 o328.2.1) 1 o328.2.2.1) 2 o328.2.2.2))) := hD
  refine lv_iload hx hb dL_law_337 (lv_at hl 1 rfl) ?_
  refine lv_icmp_eq (tgt := 344) hx hb dL_law_339 (by decide) (fun c339 => ?_) (fun c339 => ?_)
  · replace h := az_pos c339 h
    refine lv_iload hx hb dL_law_344 (lv_at hl 1 rfl) ?_
    refine lv_if_ne (tgt := 361) hx hb dL_law_346 (by decide) (fun c346 => ?_) (fun c346 => ?_)
    · replace h := az_neg c346 h
      refine lv_goto (tgt := 2624) hx hb dL_law_361 (by decide) ?_
      refine lv_iinc (v := y4 + (4 : Int32)) (lv' := [(4, .int (y4 + (4 : Int32))), (6, .int o328.1), (5, .int o310.1), (0, .ref (b)), (1, .ref (ax 0)), (2, .ref (ad 0)), (3, .ref (ob))]) hx hb dL_law_2624 hl (k := 6) rfl rfl (by decide) rfl (fun ls hl => ?_)
      refine lv_goto (tgt := 23) hx hb dL_law_2627 (by decide) ?_
      have hP : va_P g.1 az_cl (((az_ou g ob o310.2.1 :: az_wF g ax an au aw o310.2.2.1 o310.2.2.2.1 o310.2.2.2.2.1 o310.2.2.2.2.2) ++ az_cM g ad (va_up (va_up (va_up Mo 0 o328.2.1) 1 o328.2.2.1) 2 o328.2.2.2))) _ := hP
      have hD : va_D A (((az_ou g ob o310.2.1 :: az_wF g ax an au aw o310.2.2.1 o310.2.2.2.1 o310.2.2.2.2.1 o310.2.2.2.2.2) ++ az_cM g ad (va_up (va_up (va_up Mo 0 o328.2.1) 1 o328.2.2.1) 2 o328.2.2.2))) := hD
      exact ih _ _ _ _ _ _ _ _ _ _ _ _ (by omega) (by omega) h hP hD hS (lv_sub hl [3, 4, 5, 6, 0] rfl)
    · replace h := az_pos c346 h
      refine lv_aload_n hx hb dL_law_349 rfl (lv_at hl 5 rfl) ?_
      refine lv_iconst (v := (0 : Int32)) hx hb dL_law_350 (by decide) ?_
      refine va_lald (D := g.1) (f := o310.2.1) hx hb hK hP 0 2 rfl rfl (az_vin (by decide +kernel)) dL_law_351 ?_
      refine lv_iload hx hb dL_law_352 (lv_at hl 0 rfl) ?_
      refine lv_i2l (v := o328.1.toInt64) hx hb dL_law_354 rfl ?_
      refine W.lcmp hx hb dL_law_355 ?_
      refine lv_if_eq (tgt := 361) hx hb dL_law_356 (by decide) (fun c356 => ?_) (fun c356 => ?_)
      · replace h := az_pos c356 h
        refine lv_goto (tgt := 2624) hx hb dL_law_361 (by decide) ?_
        refine lv_iinc (v := y4 + (4 : Int32)) (lv' := [(4, .int (y4 + (4 : Int32))), (6, .int o328.1), (5, .int o310.1), (0, .ref (b)), (1, .ref (ax 0)), (2, .ref (ad 0)), (3, .ref (ob))]) hx hb dL_law_2624 hl (k := 6) rfl rfl (by decide) rfl (fun ls hl => ?_)
        refine lv_goto (tgt := 23) hx hb dL_law_2627 (by decide) ?_
        have hP : va_P g.1 az_cl (((az_ou g ob o310.2.1 :: az_wF g ax an au aw o310.2.2.1 o310.2.2.2.1 o310.2.2.2.2.1 o310.2.2.2.2.2) ++ az_cM g ad (va_up (va_up (va_up Mo 0 o328.2.1) 1 o328.2.2.1) 2 o328.2.2.2))) _ := hP
        have hD : va_D A (((az_ou g ob o310.2.1 :: az_wF g ax an au aw o310.2.2.1 o310.2.2.2.1 o310.2.2.2.2.1 o310.2.2.2.2.2) ++ az_cM g ad (va_up (va_up (va_up Mo 0 o328.2.1) 1 o328.2.2.1) 2 o328.2.2.2))) := hD
        exact ih _ _ _ _ _ _ _ _ _ _ _ _ (by omega) (by omega) h hP hD hS (lv_sub hl [3, 4, 5, 6, 0] rfl)
      · replace h := az_neg c356 h
        refine lv_iconst (v := (0 : Int32)) hx hb dL_law_359 (by decide) ?_
        exact absurd (Option.some.inj h) (by decide)
  · replace h := az_neg c339 h
    refine lv_iconst (v := (0 : Int32)) hx hb dL_law_342 (by decide) ?_
    exact absurd (Option.some.inj h) (by decide)
set_option maxHeartbeats 8000000 in
set_option maxRecDepth 100000 in
theorem LWC2 {p : Program} {e : Env} {s : State} {m : MethodId} {below : List Frame} {meth : Method} {c : Code} (l : Launch) (hst : l.stackTraces = false) {b L : Nat} {xs : Nat → Int32} (hL : L ≤ 2048) (C0 : lw_At p s m meth c b L xs) (g : az_G) (sa : Nat → Nat) (ax an au : Nat → Nat) (aw : Nat → Nat → Nat) (ob : Nat) (ad : Nat → Nat) (hX : va_X b L xs s s.heap) (hbl : b < s.heap.size) (hbA : ¬ (fun q : Nat => s.heap.size ≤ q) b) (hcx : az_cx sa (fun q : Nat => s.heap.size ≤ q) s s.heap) (hA : ∀ q : Nat, s.heap.size ≤ q → (fun q : Nat => s.heap.size ≤ q) q) (hK : va_K g.1 az_cl (az_tys g) s) (hts : ∀ w ∈ wsL_law, w.before #[Value.ref b] s = true) (n : Nat) (ih : ∀ (cn sn : Nat) (V T : az_St) (S : Nat → az_St) (hs : Nat → Int32) (Mo : az_St) (f : Nat → Int64) (y4 : Int32) (H : Heap) (locs : List Loc) (ls : Array Slot), cn + 6 * n ≤ 5000 → sn + 36 * n ≤ 60000 → F_law_L n xs L V T S hs Mo f y4 = some 1 → va_P g.1 az_cl (((az_ou g ob f :: az_wF g ax an au aw V T S hs) ++ az_cM g ad Mo)) H → va_D (fun q : Nat => s.heap.size ≤ q) (((az_ou g ob f :: az_wF g ax an au aw V T S hs) ++ az_cM g ad Mo)) → va_S (fun q : Nat => s.heap.size ≤ q) s.heap H locs → lv_has ls 7 [(0, .ref (b)), (1, .ref (ax 0)), (2, .ref (ad 0)), (3, .ref (ob)), (4, .int y4)] → W p l e room_1 s m #[Value.ref b] below meth c H locs cn sn (lw_Z below #[Value.ref b] s) (F0 m 23 ls [])) : ∀ (cn sn : Nat) (V T : az_St) (S : Nat → az_St) (hs : Nat → Int32) (Mo : az_St) (f : Nat → Int64) (y4 : Int32) (H : Heap) (locs : List Loc) (ls : Array Slot), cn + 6 * (n + 1) ≤ 5000 → sn + 36 * (n + 1) ≤ 60000 → ¬ ((Int32.ofNat L) - (4 : Int32) < y4) → az_in y4 L = true → F_law_C2 (fun V T S hs Mo f y4 => F_law_L n xs L V T S hs Mo f y4) xs L V T S hs Mo f y4 = some 1 → va_P g.1 az_cl (((az_ou g ob f :: az_wF g ax an au aw V T S hs) ++ az_cM g ad Mo)) H → va_D (fun q : Nat => s.heap.size ≤ q) (((az_ou g ob f :: az_wF g ax an au aw V T S hs) ++ az_cM g ad Mo)) → va_S (fun q : Nat => s.heap.size ≤ q) s.heap H locs → lv_has ls 7 [(0, .ref (b)), (1, .ref (ax 0)), (2, .ref (ad 0)), (3, .ref (ob)), (4, .int y4)] → W p l e room_1 s m #[Value.ref b] below meth c H locs cn sn (lw_Z below #[Value.ref b] s) (F0 m 364 ls []) := by
  intro cn sn V T S hs Mo f y4 H locs ls hcn hsn c29 i35 h hP hD hS hl
  obtain ⟨hx, hb, hr, hml, hown, -, -, -, hlocks, -⟩ := id C0
  unfold F_law_C2 at h
  obtain ⟨A, eA⟩ : ∃ A : Nat → Prop, A = (fun q : Nat => s.heap.size ≤ q) := ⟨_, rfl⟩
  rw [← eA] at hbA hcx hA hD hS ih
  refine lv_aload_n hx hb dL_law_364 rfl (lv_at hl 1 rfl) ?_
  refine lv_aload_n hx hb dL_law_365 rfl (lv_at hl 0 rfl) ?_
  refine lv_iload hx hb dL_law_366 (lv_at hl 4 rfl) ?_
  refine lv_iconst (v := (1 : Int32)) hx hb dL_law_368 (by decide) ?_
  refine lv_iadd hx hb dL_law_369 ?_
  obtain ⟨i370, h⟩ := az_ite h
  refine va_sld hx hb hX hbl hbA hS (az_vin i370) dL_law_370 ?_
  refine lv_aload_n hx hb dL_law_371 rfl (lv_at hl 3 rfl) ?_
  obtain ⟨o372, hc372, h⟩ := az_bnd h
  refine az_callLW (wr := az_cM g ad Mo) (As := [.ref (ax 0), .int (xs (y4 + (1 : Int32)).toNatClampNeg), .ref (ob)]) (rest := []) ⟨hx, hb, hml, hown, hts⟩ hl.1 (kL_delete l hst g sa ax an au aw ob V T S hs f (xs (y4 + (1 : Int32)).toNatClampNeg) o372 hc372) (vx_cwSW (hh := [(0, 9, 12, 19), (0, 9, 15, 27)]) 3 hts gL_law_L_delete rfl rfl rfl (by decide +kernel) ⟨(Nat.le_of_ble_eq_true rfl), (Nat.le_of_ble_eq_true rfl)⟩) rfl hK hcx hP hD hS hA (Nat.le_of_ble_eq_true rfl) dL_law_372 ⟨by show _ ≤ 601024; omega, by show _ ≤ 7293034; omega⟩ rfl (fun H locs hP hD hS => ?_)
  have hP : va_P g.1 az_cl (((az_ou g ob o372.2.1 :: az_wF g ax an au aw o372.2.2.1 o372.2.2.2.1 o372.2.2.2.2.1 o372.2.2.2.2.2) ++ az_cM g ad Mo)) _ := hP
  have hD : va_D A (((az_ou g ob o372.2.1 :: az_wF g ax an au aw o372.2.2.1 o372.2.2.2.1 o372.2.2.2.2.1 o372.2.2.2.2.2) ++ az_cM g ad Mo)) := hD
  refine lv_istore (lv' := [(5, .int o372.1), (0, .ref (b)), (1, .ref (ax 0)), (2, .ref (ad 0)), (3, .ref (ob)), (4, .int y4)]) hx hb dL_law_375 hl (by decide) rfl (fun ls hl => ?_)
  refine lv_aload_n hx hb dL_law_377 rfl (lv_at hl 3 rfl) ?_
  refine lv_aload_n hx hb dL_law_378 rfl (lv_at hl 1 rfl) ?_
  refine lv_iload hx hb dL_law_379 (lv_at hl 5 rfl) ?_
  refine lv_iconst (v := (1 : Int32)) hx hb dL_law_381 (by decide) ?_
  refine lv_iadd hx hb dL_law_382 ?_
  refine va_sld hx hb hX hbl hbA hS (az_vin i370) dL_law_383 ?_
  obtain ⟨o384, hc384, h⟩ := az_bnd h
  refine az_callPi (wr := (az_ou g ob o372.2.1 :: az_wF g ax an au aw o372.2.2.1 o372.2.2.2.1 o372.2.2.2.2.1 o372.2.2.2.2.2)) (w2 := ((az_ou g ob o372.2.1 :: az_wF g ax an au aw o372.2.2.1 o372.2.2.2.1 o372.2.2.2.2.1 o372.2.2.2.2.2) ++ az_cM g ad (va_up (va_up (va_up Mo 0 o384.2.1) 1 o384.2.2.1) 2 o384.2.2.2))) (As := [.int (xs (y4 + (1 : Int32)).toNatClampNeg)]) (rest := []) ⟨hx, hb, hml, hown, hts⟩ hl.1 (kX7_delete l g ad Mo (xs (y4 + (1 : Int32)).toNatClampNeg) o384 hc384) (cwV 1 hts gL_law_X7_delete rfl rfl rfl (by decide +kernel) ⟨(Nat.le_of_ble_eq_true rfl), (Nat.le_of_ble_eq_true rfl)⟩) rfl hK hP hD hS hA List.perm_append_comm List.perm_append_comm 0 rfl rfl rfl (Nat.le_of_ble_eq_true rfl) dL_law_384 ⟨by show _ ≤ 601024; omega, by show _ ≤ 7293034; omega⟩ rfl (fun H locs hP hD hS => ?_)
  have hP : va_P g.1 az_cl (((az_ou g ob o372.2.1 :: az_wF g ax an au aw o372.2.2.1 o372.2.2.2.1 o372.2.2.2.2.1 o372.2.2.2.2.2) ++ az_cM g ad (va_up (va_up (va_up Mo 0 o384.2.1) 1 o384.2.2.1) 2 o384.2.2.2))) _ := hP
  have hD : va_D A (((az_ou g ob o372.2.1 :: az_wF g ax an au aw o372.2.2.1 o372.2.2.2.1 o372.2.2.2.2.1 o372.2.2.2.2.2) ++ az_cM g ad (va_up (va_up (va_up Mo 0 o384.2.1) 1 o384.2.2.1) 2 o384.2.2.2))) := hD
  refine lv_istore (lv' := [(6, .int o384.1), (5, .int o372.1), (0, .ref (b)), (1, .ref (ax 0)), (2, .ref (ad 0)), (3, .ref (ob)), (4, .int y4)]) hx hb dL_law_387 hl (by decide) rfl (fun ls hl => ?_)
  refine lv_aload_n hx hb dL_law_389 rfl (lv_at hl 4 rfl) ?_
  obtain ⟨o390, hc390, h⟩ := az_bnd h
  refine az_callPi (wr := (az_ou g ob o372.2.1 :: az_wF g ax an au aw o372.2.2.1 o372.2.2.2.1 o372.2.2.2.2.1 o372.2.2.2.2.2)) (w2 := ((az_ou g ob o372.2.1 :: az_wF g ax an au aw o372.2.2.1 o372.2.2.2.1 o372.2.2.2.2.1 o372.2.2.2.2.2) ++ az_cM g ad (va_up (va_up (va_up Mo 0 o384.2.1) 1 o384.2.2.1) 2 o384.2.2.2))) (As := []) (rest := []) ⟨hx, hb, hml, hown, hts⟩ hl.1 (kX7_thrown l g ad (va_up (va_up (va_up Mo 0 o384.2.1) 1 o384.2.2.1) 2 o384.2.2.2)  o390 hc390) (cwV 0 hts gL_law_X7_thrown rfl rfl rfl (by decide +kernel) ⟨(Nat.le_of_ble_eq_true rfl), (Nat.le_of_ble_eq_true rfl)⟩) rfl hK hP hD hS hA List.perm_append_comm List.perm_append_comm 0 rfl rfl rfl (Nat.le_of_ble_eq_true rfl) dL_law_390 ⟨by show _ ≤ 601024; omega, by show _ ≤ 7293034; omega⟩ rfl (fun H locs hP hD hS => ?_)
  have hP : va_P g.1 az_cl (((az_ou g ob o372.2.1 :: az_wF g ax an au aw o372.2.2.1 o372.2.2.2.1 o372.2.2.2.2.1 o372.2.2.2.2.2) ++ az_cM g ad (va_up (va_up (va_up Mo 0 o384.2.1) 1 o384.2.2.1) 2 o384.2.2.2))) _ := hP
  have hD : va_D A (((az_ou g ob o372.2.1 :: az_wF g ax an au aw o372.2.2.1 o372.2.2.2.1 o372.2.2.2.2.1 o372.2.2.2.2.2) ++ az_cM g ad (va_up (va_up (va_up Mo 0 o384.2.1) 1 o384.2.2.1) 2 o384.2.2.2))) := hD
  refine lv_iload hx hb dL_law_393 (lv_at hl 1 rfl) ?_
  refine lv_icmp_eq (tgt := 400) hx hb dL_law_395 (by decide) (fun c395 => ?_) (fun c395 => ?_)
  · replace h := az_pos c395 h
    refine lv_iload hx hb dL_law_400 (lv_at hl 1 rfl) ?_
    refine lv_if_ne (tgt := 417) hx hb dL_law_402 (by decide) (fun c402 => ?_) (fun c402 => ?_)
    · replace h := az_neg c402 h
      refine lv_goto (tgt := 2624) hx hb dL_law_417 (by decide) ?_
      refine lv_iinc (v := y4 + (4 : Int32)) (lv' := [(4, .int (y4 + (4 : Int32))), (6, .int o384.1), (5, .int o372.1), (0, .ref (b)), (1, .ref (ax 0)), (2, .ref (ad 0)), (3, .ref (ob))]) hx hb dL_law_2624 hl (k := 6) rfl rfl (by decide) rfl (fun ls hl => ?_)
      refine lv_goto (tgt := 23) hx hb dL_law_2627 (by decide) ?_
      have hP : va_P g.1 az_cl (((az_ou g ob o372.2.1 :: az_wF g ax an au aw o372.2.2.1 o372.2.2.2.1 o372.2.2.2.2.1 o372.2.2.2.2.2) ++ az_cM g ad (va_up (va_up (va_up Mo 0 o384.2.1) 1 o384.2.2.1) 2 o384.2.2.2))) _ := hP
      have hD : va_D A (((az_ou g ob o372.2.1 :: az_wF g ax an au aw o372.2.2.1 o372.2.2.2.1 o372.2.2.2.2.1 o372.2.2.2.2.2) ++ az_cM g ad (va_up (va_up (va_up Mo 0 o384.2.1) 1 o384.2.2.1) 2 o384.2.2.2))) := hD
      exact ih _ _ _ _ _ _ _ _ _ _ _ _ (by omega) (by omega) h hP hD hS (lv_sub hl [3, 4, 5, 6, 0] rfl)
    · replace h := az_pos c402 h
      refine lv_aload_n hx hb dL_law_405 rfl (lv_at hl 5 rfl) ?_
      refine lv_iconst (v := (0 : Int32)) hx hb dL_law_406 (by decide) ?_
      refine va_lald (D := g.1) (f := o372.2.1) hx hb hK hP 0 2 rfl rfl (az_vin (by decide +kernel)) dL_law_407 ?_
      refine lv_iload hx hb dL_law_408 (lv_at hl 0 rfl) ?_
      refine lv_i2l (v := o384.1.toInt64) hx hb dL_law_410 rfl ?_
      refine W.lcmp hx hb dL_law_411 ?_
      refine lv_if_eq (tgt := 417) hx hb dL_law_412 (by decide) (fun c412 => ?_) (fun c412 => ?_)
      · replace h := az_pos c412 h
        refine lv_goto (tgt := 2624) hx hb dL_law_417 (by decide) ?_
        refine lv_iinc (v := y4 + (4 : Int32)) (lv' := [(4, .int (y4 + (4 : Int32))), (6, .int o384.1), (5, .int o372.1), (0, .ref (b)), (1, .ref (ax 0)), (2, .ref (ad 0)), (3, .ref (ob))]) hx hb dL_law_2624 hl (k := 6) rfl rfl (by decide) rfl (fun ls hl => ?_)
        refine lv_goto (tgt := 23) hx hb dL_law_2627 (by decide) ?_
        have hP : va_P g.1 az_cl (((az_ou g ob o372.2.1 :: az_wF g ax an au aw o372.2.2.1 o372.2.2.2.1 o372.2.2.2.2.1 o372.2.2.2.2.2) ++ az_cM g ad (va_up (va_up (va_up Mo 0 o384.2.1) 1 o384.2.2.1) 2 o384.2.2.2))) _ := hP
        have hD : va_D A (((az_ou g ob o372.2.1 :: az_wF g ax an au aw o372.2.2.1 o372.2.2.2.1 o372.2.2.2.2.1 o372.2.2.2.2.2) ++ az_cM g ad (va_up (va_up (va_up Mo 0 o384.2.1) 1 o384.2.2.1) 2 o384.2.2.2))) := hD
        exact ih _ _ _ _ _ _ _ _ _ _ _ _ (by omega) (by omega) h hP hD hS (lv_sub hl [3, 4, 5, 6, 0] rfl)
      · replace h := az_neg c412 h
        refine lv_iconst (v := (0 : Int32)) hx hb dL_law_415 (by decide) ?_
        exact absurd (Option.some.inj h) (by decide)
  · replace h := az_neg c395 h
    refine lv_iconst (v := (0 : Int32)) hx hb dL_law_398 (by decide) ?_
    exact absurd (Option.some.inj h) (by decide)
set_option maxHeartbeats 8000000 in
set_option maxRecDepth 100000 in
theorem LWC3 {p : Program} {e : Env} {s : State} {m : MethodId} {below : List Frame} {meth : Method} {c : Code} (l : Launch) (hst : l.stackTraces = false) {b L : Nat} {xs : Nat → Int32} (hL : L ≤ 2048) (C0 : lw_At p s m meth c b L xs) (g : az_G) (sa : Nat → Nat) (ax an au : Nat → Nat) (aw : Nat → Nat → Nat) (ob : Nat) (ad : Nat → Nat) (hX : va_X b L xs s s.heap) (hbl : b < s.heap.size) (hbA : ¬ (fun q : Nat => s.heap.size ≤ q) b) (hcx : az_cx sa (fun q : Nat => s.heap.size ≤ q) s s.heap) (hA : ∀ q : Nat, s.heap.size ≤ q → (fun q : Nat => s.heap.size ≤ q) q) (hK : va_K g.1 az_cl (az_tys g) s) (hts : ∀ w ∈ wsL_law, w.before #[Value.ref b] s = true) (n : Nat) (ih : ∀ (cn sn : Nat) (V T : az_St) (S : Nat → az_St) (hs : Nat → Int32) (Mo : az_St) (f : Nat → Int64) (y4 : Int32) (H : Heap) (locs : List Loc) (ls : Array Slot), cn + 6 * n ≤ 5000 → sn + 36 * n ≤ 60000 → F_law_L n xs L V T S hs Mo f y4 = some 1 → va_P g.1 az_cl (((az_ou g ob f :: az_wF g ax an au aw V T S hs) ++ az_cM g ad Mo)) H → va_D (fun q : Nat => s.heap.size ≤ q) (((az_ou g ob f :: az_wF g ax an au aw V T S hs) ++ az_cM g ad Mo)) → va_S (fun q : Nat => s.heap.size ≤ q) s.heap H locs → lv_has ls 7 [(0, .ref (b)), (1, .ref (ax 0)), (2, .ref (ad 0)), (3, .ref (ob)), (4, .int y4)] → W p l e room_1 s m #[Value.ref b] below meth c H locs cn sn (lw_Z below #[Value.ref b] s) (F0 m 23 ls [])) : ∀ (cn sn : Nat) (V T : az_St) (S : Nat → az_St) (hs : Nat → Int32) (Mo : az_St) (f : Nat → Int64) (y4 : Int32) (H : Heap) (locs : List Loc) (ls : Array Slot), cn + 6 * (n + 1) ≤ 5000 → sn + 36 * (n + 1) ≤ 60000 → ¬ ((Int32.ofNat L) - (4 : Int32) < y4) → az_in y4 L = true → F_law_C3 (fun V T S hs Mo f y4 => F_law_L n xs L V T S hs Mo f y4) xs L V T S hs Mo f y4 = some 1 → va_P g.1 az_cl (((az_ou g ob f :: az_wF g ax an au aw V T S hs) ++ az_cM g ad Mo)) H → va_D (fun q : Nat => s.heap.size ≤ q) (((az_ou g ob f :: az_wF g ax an au aw V T S hs) ++ az_cM g ad Mo)) → va_S (fun q : Nat => s.heap.size ≤ q) s.heap H locs → lv_has ls 7 [(0, .ref (b)), (1, .ref (ax 0)), (2, .ref (ad 0)), (3, .ref (ob)), (4, .int y4)] → W p l e room_1 s m #[Value.ref b] below meth c H locs cn sn (lw_Z below #[Value.ref b] s) (F0 m 420 ls []) := by
  intro cn sn V T S hs Mo f y4 H locs ls hcn hsn c29 i35 h hP hD hS hl
  obtain ⟨hx, hb, hr, hml, hown, -, -, -, hlocks, -⟩ := id C0
  unfold F_law_C3 at h
  obtain ⟨A, eA⟩ : ∃ A : Nat → Prop, A = (fun q : Nat => s.heap.size ≤ q) := ⟨_, rfl⟩
  rw [← eA] at hbA hcx hA hD hS ih
  refine lv_aload_n hx hb dL_law_420 rfl (lv_at hl 1 rfl) ?_
  refine lv_aload_n hx hb dL_law_421 rfl (lv_at hl 0 rfl) ?_
  refine lv_iload hx hb dL_law_422 (lv_at hl 4 rfl) ?_
  refine lv_iconst (v := (1 : Int32)) hx hb dL_law_424 (by decide) ?_
  refine lv_iadd hx hb dL_law_425 ?_
  obtain ⟨i426, h⟩ := az_ite h
  refine va_sld hx hb hX hbl hbA hS (az_vin i426) dL_law_426 ?_
  refine lv_aload_n hx hb dL_law_427 rfl (lv_at hl 3 rfl) ?_
  obtain ⟨o428, hc428, h⟩ := az_bnd h
  refine az_callLW (wr := az_cM g ad Mo) (As := [.ref (ax 0), .int (xs (y4 + (1 : Int32)).toNatClampNeg), .ref (ob)]) (rest := []) ⟨hx, hb, hml, hown, hts⟩ hl.1 (kL_get l hst g sa ax an au aw ob V T S hs f (xs (y4 + (1 : Int32)).toNatClampNeg) o428 hc428) (vx_cwSW (hh := [(0, 9, 12, 19), (0, 9, 15, 27)]) 3 hts gL_law_L_get rfl rfl rfl (by decide +kernel) ⟨(Nat.le_of_ble_eq_true rfl), (Nat.le_of_ble_eq_true rfl)⟩) rfl hK hcx hP hD hS hA (Nat.le_of_ble_eq_true rfl) dL_law_428 ⟨by show _ ≤ 601024; omega, by show _ ≤ 7293034; omega⟩ rfl (fun H locs hP hD hS => ?_)
  have hP : va_P g.1 az_cl (((az_ou g ob o428.2.1 :: az_wF g ax an au aw o428.2.2.1 o428.2.2.2.1 o428.2.2.2.2.1 o428.2.2.2.2.2) ++ az_cM g ad Mo)) _ := hP
  have hD : va_D A (((az_ou g ob o428.2.1 :: az_wF g ax an au aw o428.2.2.1 o428.2.2.2.1 o428.2.2.2.2.1 o428.2.2.2.2.2) ++ az_cM g ad Mo)) := hD
  refine lv_istore (lv' := [(5, .int o428.1), (0, .ref (b)), (1, .ref (ax 0)), (2, .ref (ad 0)), (3, .ref (ob)), (4, .int y4)]) hx hb dL_law_431 hl (by decide) rfl (fun ls hl => ?_)
  refine lv_aload_n hx hb dL_law_433 rfl (lv_at hl 3 rfl) ?_
  refine lv_aload_n hx hb dL_law_434 rfl (lv_at hl 1 rfl) ?_
  refine lv_iload hx hb dL_law_435 (lv_at hl 5 rfl) ?_
  refine lv_iconst (v := (1 : Int32)) hx hb dL_law_437 (by decide) ?_
  refine lv_iadd hx hb dL_law_438 ?_
  refine va_sld hx hb hX hbl hbA hS (az_vin i426) dL_law_439 ?_
  obtain ⟨o440, hc440, h⟩ := az_bnd h
  refine az_callPi (wr := (az_ou g ob o428.2.1 :: az_wF g ax an au aw o428.2.2.1 o428.2.2.2.1 o428.2.2.2.2.1 o428.2.2.2.2.2)) (w2 := ((az_ou g ob o428.2.1 :: az_wF g ax an au aw o428.2.2.1 o428.2.2.2.1 o428.2.2.2.2.1 o428.2.2.2.2.2) ++ az_cM g ad (va_up Mo 2 o440.2))) (As := [.int (xs (y4 + (1 : Int32)).toNatClampNeg)]) (rest := []) ⟨hx, hb, hml, hown, hts⟩ hl.1 (kX7_get l g ad Mo (xs (y4 + (1 : Int32)).toNatClampNeg) o440 hc440) (cwV 1 hts gL_law_X7_get rfl rfl rfl (by decide +kernel) ⟨(Nat.le_of_ble_eq_true rfl), (Nat.le_of_ble_eq_true rfl)⟩) rfl hK hP hD hS hA List.perm_append_comm List.perm_append_comm 0 rfl rfl rfl (Nat.le_of_ble_eq_true rfl) dL_law_440 ⟨by show _ ≤ 601024; omega, by show _ ≤ 7293034; omega⟩ rfl (fun H locs hP hD hS => ?_)
  have hP : va_P g.1 az_cl (((az_ou g ob o428.2.1 :: az_wF g ax an au aw o428.2.2.1 o428.2.2.2.1 o428.2.2.2.2.1 o428.2.2.2.2.2) ++ az_cM g ad (va_up Mo 2 o440.2))) _ := hP
  have hD : va_D A (((az_ou g ob o428.2.1 :: az_wF g ax an au aw o428.2.2.1 o428.2.2.2.1 o428.2.2.2.2.1 o428.2.2.2.2.2) ++ az_cM g ad (va_up Mo 2 o440.2))) := hD
  refine lv_istore (lv' := [(6, .int o440.1), (5, .int o428.1), (0, .ref (b)), (1, .ref (ax 0)), (2, .ref (ad 0)), (3, .ref (ob)), (4, .int y4)]) hx hb dL_law_443 hl (by decide) rfl (fun ls hl => ?_)
  refine lv_aload_n hx hb dL_law_445 rfl (lv_at hl 4 rfl) ?_
  obtain ⟨o446, hc446, h⟩ := az_bnd h
  refine az_callPi (wr := (az_ou g ob o428.2.1 :: az_wF g ax an au aw o428.2.2.1 o428.2.2.2.1 o428.2.2.2.2.1 o428.2.2.2.2.2)) (w2 := ((az_ou g ob o428.2.1 :: az_wF g ax an au aw o428.2.2.1 o428.2.2.2.1 o428.2.2.2.2.1 o428.2.2.2.2.2) ++ az_cM g ad (va_up Mo 2 o440.2))) (As := []) (rest := []) ⟨hx, hb, hml, hown, hts⟩ hl.1 (kX7_thrown l g ad (va_up Mo 2 o440.2)  o446 hc446) (cwV 0 hts gL_law_X7_thrown rfl rfl rfl (by decide +kernel) ⟨(Nat.le_of_ble_eq_true rfl), (Nat.le_of_ble_eq_true rfl)⟩) rfl hK hP hD hS hA List.perm_append_comm List.perm_append_comm 0 rfl rfl rfl (Nat.le_of_ble_eq_true rfl) dL_law_446 ⟨by show _ ≤ 601024; omega, by show _ ≤ 7293034; omega⟩ rfl (fun H locs hP hD hS => ?_)
  have hP : va_P g.1 az_cl (((az_ou g ob o428.2.1 :: az_wF g ax an au aw o428.2.2.1 o428.2.2.2.1 o428.2.2.2.2.1 o428.2.2.2.2.2) ++ az_cM g ad (va_up Mo 2 o440.2))) _ := hP
  have hD : va_D A (((az_ou g ob o428.2.1 :: az_wF g ax an au aw o428.2.2.1 o428.2.2.2.1 o428.2.2.2.2.1 o428.2.2.2.2.2) ++ az_cM g ad (va_up Mo 2 o440.2))) := hD
  refine lv_iload hx hb dL_law_449 (lv_at hl 1 rfl) ?_
  refine lv_icmp_eq (tgt := 456) hx hb dL_law_451 (by decide) (fun c451 => ?_) (fun c451 => ?_)
  · replace h := az_pos c451 h
    refine lv_iload hx hb dL_law_456 (lv_at hl 1 rfl) ?_
    refine lv_if_ne (tgt := 473) hx hb dL_law_458 (by decide) (fun c458 => ?_) (fun c458 => ?_)
    · replace h := az_neg c458 h
      refine lv_goto (tgt := 2624) hx hb dL_law_473 (by decide) ?_
      refine lv_iinc (v := y4 + (4 : Int32)) (lv' := [(4, .int (y4 + (4 : Int32))), (6, .int o440.1), (5, .int o428.1), (0, .ref (b)), (1, .ref (ax 0)), (2, .ref (ad 0)), (3, .ref (ob))]) hx hb dL_law_2624 hl (k := 6) rfl rfl (by decide) rfl (fun ls hl => ?_)
      refine lv_goto (tgt := 23) hx hb dL_law_2627 (by decide) ?_
      have hP : va_P g.1 az_cl (((az_ou g ob o428.2.1 :: az_wF g ax an au aw o428.2.2.1 o428.2.2.2.1 o428.2.2.2.2.1 o428.2.2.2.2.2) ++ az_cM g ad (va_up Mo 2 o440.2))) _ := hP
      have hD : va_D A (((az_ou g ob o428.2.1 :: az_wF g ax an au aw o428.2.2.1 o428.2.2.2.1 o428.2.2.2.2.1 o428.2.2.2.2.2) ++ az_cM g ad (va_up Mo 2 o440.2))) := hD
      exact ih _ _ _ _ _ _ _ _ _ _ _ _ (by omega) (by omega) h hP hD hS (lv_sub hl [3, 4, 5, 6, 0] rfl)
    · replace h := az_pos c458 h
      refine lv_aload_n hx hb dL_law_461 rfl (lv_at hl 5 rfl) ?_
      refine lv_iconst (v := (0 : Int32)) hx hb dL_law_462 (by decide) ?_
      refine va_lald (D := g.1) (f := o428.2.1) hx hb hK hP 0 2 rfl rfl (az_vin (by decide +kernel)) dL_law_463 ?_
      refine lv_iload hx hb dL_law_464 (lv_at hl 0 rfl) ?_
      refine lv_i2l (v := o440.1.toInt64) hx hb dL_law_466 rfl ?_
      refine W.lcmp hx hb dL_law_467 ?_
      refine lv_if_eq (tgt := 473) hx hb dL_law_468 (by decide) (fun c468 => ?_) (fun c468 => ?_)
      · replace h := az_pos c468 h
        refine lv_goto (tgt := 2624) hx hb dL_law_473 (by decide) ?_
        refine lv_iinc (v := y4 + (4 : Int32)) (lv' := [(4, .int (y4 + (4 : Int32))), (6, .int o440.1), (5, .int o428.1), (0, .ref (b)), (1, .ref (ax 0)), (2, .ref (ad 0)), (3, .ref (ob))]) hx hb dL_law_2624 hl (k := 6) rfl rfl (by decide) rfl (fun ls hl => ?_)
        refine lv_goto (tgt := 23) hx hb dL_law_2627 (by decide) ?_
        have hP : va_P g.1 az_cl (((az_ou g ob o428.2.1 :: az_wF g ax an au aw o428.2.2.1 o428.2.2.2.1 o428.2.2.2.2.1 o428.2.2.2.2.2) ++ az_cM g ad (va_up Mo 2 o440.2))) _ := hP
        have hD : va_D A (((az_ou g ob o428.2.1 :: az_wF g ax an au aw o428.2.2.1 o428.2.2.2.1 o428.2.2.2.2.1 o428.2.2.2.2.2) ++ az_cM g ad (va_up Mo 2 o440.2))) := hD
        exact ih _ _ _ _ _ _ _ _ _ _ _ _ (by omega) (by omega) h hP hD hS (lv_sub hl [3, 4, 5, 6, 0] rfl)
      · replace h := az_neg c468 h
        refine lv_iconst (v := (0 : Int32)) hx hb dL_law_471 (by decide) ?_
        exact absurd (Option.some.inj h) (by decide)
  · replace h := az_neg c451 h
    refine lv_iconst (v := (0 : Int32)) hx hb dL_law_454 (by decide) ?_
    exact absurd (Option.some.inj h) (by decide)
set_option maxHeartbeats 8000000 in
set_option maxRecDepth 100000 in
theorem LWC4 {p : Program} {e : Env} {s : State} {m : MethodId} {below : List Frame} {meth : Method} {c : Code} (l : Launch) (hst : l.stackTraces = false) {b L : Nat} {xs : Nat → Int32} (hL : L ≤ 2048) (C0 : lw_At p s m meth c b L xs) (g : az_G) (sa : Nat → Nat) (ax an au : Nat → Nat) (aw : Nat → Nat → Nat) (ob : Nat) (ad : Nat → Nat) (hX : va_X b L xs s s.heap) (hbl : b < s.heap.size) (hbA : ¬ (fun q : Nat => s.heap.size ≤ q) b) (hcx : az_cx sa (fun q : Nat => s.heap.size ≤ q) s s.heap) (hA : ∀ q : Nat, s.heap.size ≤ q → (fun q : Nat => s.heap.size ≤ q) q) (hK : va_K g.1 az_cl (az_tys g) s) (hts : ∀ w ∈ wsL_law, w.before #[Value.ref b] s = true) (n : Nat) (ih : ∀ (cn sn : Nat) (V T : az_St) (S : Nat → az_St) (hs : Nat → Int32) (Mo : az_St) (f : Nat → Int64) (y4 : Int32) (H : Heap) (locs : List Loc) (ls : Array Slot), cn + 6 * n ≤ 5000 → sn + 36 * n ≤ 60000 → F_law_L n xs L V T S hs Mo f y4 = some 1 → va_P g.1 az_cl (((az_ou g ob f :: az_wF g ax an au aw V T S hs) ++ az_cM g ad Mo)) H → va_D (fun q : Nat => s.heap.size ≤ q) (((az_ou g ob f :: az_wF g ax an au aw V T S hs) ++ az_cM g ad Mo)) → va_S (fun q : Nat => s.heap.size ≤ q) s.heap H locs → lv_has ls 7 [(0, .ref (b)), (1, .ref (ax 0)), (2, .ref (ad 0)), (3, .ref (ob)), (4, .int y4)] → W p l e room_1 s m #[Value.ref b] below meth c H locs cn sn (lw_Z below #[Value.ref b] s) (F0 m 23 ls [])) : ∀ (cn sn : Nat) (V T : az_St) (S : Nat → az_St) (hs : Nat → Int32) (Mo : az_St) (f : Nat → Int64) (y4 : Int32) (H : Heap) (locs : List Loc) (ls : Array Slot), cn + 6 * (n + 1) ≤ 5000 → sn + 36 * (n + 1) ≤ 60000 → ¬ ((Int32.ofNat L) - (4 : Int32) < y4) → az_in y4 L = true → F_law_C4 (fun V T S hs Mo f y4 => F_law_L n xs L V T S hs Mo f y4) xs L V T S hs Mo f y4 = some 1 → va_P g.1 az_cl (((az_ou g ob f :: az_wF g ax an au aw V T S hs) ++ az_cM g ad Mo)) H → va_D (fun q : Nat => s.heap.size ≤ q) (((az_ou g ob f :: az_wF g ax an au aw V T S hs) ++ az_cM g ad Mo)) → va_S (fun q : Nat => s.heap.size ≤ q) s.heap H locs → lv_has ls 7 [(0, .ref (b)), (1, .ref (ax 0)), (2, .ref (ad 0)), (3, .ref (ob)), (4, .int y4)] → W p l e room_1 s m #[Value.ref b] below meth c H locs cn sn (lw_Z below #[Value.ref b] s) (F0 m 476 ls []) := by
  intro cn sn V T S hs Mo f y4 H locs ls hcn hsn c29 i35 h hP hD hS hl
  obtain ⟨hx, hb, hr, hml, hown, -, -, -, hlocks, -⟩ := id C0
  unfold F_law_C4 at h
  obtain ⟨A, eA⟩ : ∃ A : Nat → Prop, A = (fun q : Nat => s.heap.size ≤ q) := ⟨_, rfl⟩
  rw [← eA] at hbA hcx hA hD hS ih
  refine lv_aload_n hx hb dL_law_476 rfl (lv_at hl 1 rfl) ?_
  refine lv_aload_n hx hb dL_law_477 rfl (lv_at hl 0 rfl) ?_
  refine lv_iload hx hb dL_law_478 (lv_at hl 4 rfl) ?_
  refine lv_iconst (v := (1 : Int32)) hx hb dL_law_480 (by decide) ?_
  refine lv_iadd hx hb dL_law_481 ?_
  obtain ⟨i482, h⟩ := az_ite h
  refine va_sld hx hb hX hbl hbA hS (az_vin i482) dL_law_482 ?_
  refine lv_aload_n hx hb dL_law_483 rfl (lv_at hl 3 rfl) ?_
  obtain ⟨o484, hc484, h⟩ := az_bnd h
  refine az_callLW (wr := az_cM g ad Mo) (As := [.ref (ax 0), .int (xs (y4 + (1 : Int32)).toNatClampNeg), .ref (ob)]) (rest := []) ⟨hx, hb, hml, hown, hts⟩ hl.1 (kL_addressOf l hst g sa ax an au aw ob V T S hs f (xs (y4 + (1 : Int32)).toNatClampNeg) o484 hc484) (vx_cwSW (hh := [(0, 9, 12, 19)]) 3 hts gL_law_L_addressOf rfl rfl rfl (by decide +kernel) ⟨(Nat.le_of_ble_eq_true rfl), (Nat.le_of_ble_eq_true rfl)⟩) rfl hK hcx hP hD hS hA (Nat.le_of_ble_eq_true rfl) dL_law_484 ⟨by show _ ≤ 601024; omega, by show _ ≤ 7293034; omega⟩ rfl (fun H locs hP hD hS => ?_)
  have hP : va_P g.1 az_cl (((az_ou g ob o484.2.1 :: az_wF g ax an au aw o484.2.2.1 o484.2.2.2.1 o484.2.2.2.2.1 o484.2.2.2.2.2) ++ az_cM g ad Mo)) _ := hP
  have hD : va_D A (((az_ou g ob o484.2.1 :: az_wF g ax an au aw o484.2.2.1 o484.2.2.2.1 o484.2.2.2.2.1 o484.2.2.2.2.2) ++ az_cM g ad Mo)) := hD
  refine lv_istore (lv' := [(5, .int o484.1), (0, .ref (b)), (1, .ref (ax 0)), (2, .ref (ad 0)), (3, .ref (ob)), (4, .int y4)]) hx hb dL_law_487 hl (by decide) rfl (fun ls hl => ?_)
  refine lv_aload_n hx hb dL_law_489 rfl (lv_at hl 3 rfl) ?_
  refine lv_aload_n hx hb dL_law_490 rfl (lv_at hl 1 rfl) ?_
  refine lv_iload hx hb dL_law_491 (lv_at hl 5 rfl) ?_
  refine lv_iconst (v := (1 : Int32)) hx hb dL_law_493 (by decide) ?_
  refine lv_iadd hx hb dL_law_494 ?_
  refine va_sld hx hb hX hbl hbA hS (az_vin i482) dL_law_495 ?_
  obtain ⟨o496, hc496, h⟩ := az_bnd h
  refine az_callPi (wr := (az_ou g ob o484.2.1 :: az_wF g ax an au aw o484.2.2.1 o484.2.2.2.1 o484.2.2.2.2.1 o484.2.2.2.2.2)) (w2 := ((az_ou g ob o484.2.1 :: az_wF g ax an au aw o484.2.2.1 o484.2.2.2.1 o484.2.2.2.2.1 o484.2.2.2.2.2) ++ az_cM g ad (va_up Mo 2 o496.2))) (As := [.int (xs (y4 + (1 : Int32)).toNatClampNeg)]) (rest := []) ⟨hx, hb, hml, hown, hts⟩ hl.1 (kX7_addressOf l g ad Mo (xs (y4 + (1 : Int32)).toNatClampNeg) o496 hc496) (cwV 1 hts gL_law_X7_addressOf rfl rfl rfl (by decide +kernel) ⟨(Nat.le_of_ble_eq_true rfl), (Nat.le_of_ble_eq_true rfl)⟩) rfl hK hP hD hS hA List.perm_append_comm List.perm_append_comm 0 rfl rfl rfl (Nat.le_of_ble_eq_true rfl) dL_law_496 ⟨by show _ ≤ 601024; omega, by show _ ≤ 7293034; omega⟩ rfl (fun H locs hP hD hS => ?_)
  have hP : va_P g.1 az_cl (((az_ou g ob o484.2.1 :: az_wF g ax an au aw o484.2.2.1 o484.2.2.2.1 o484.2.2.2.2.1 o484.2.2.2.2.2) ++ az_cM g ad (va_up Mo 2 o496.2))) _ := hP
  have hD : va_D A (((az_ou g ob o484.2.1 :: az_wF g ax an au aw o484.2.2.1 o484.2.2.2.1 o484.2.2.2.2.1 o484.2.2.2.2.2) ++ az_cM g ad (va_up Mo 2 o496.2))) := hD
  refine lv_istore (lv' := [(6, .int o496.1), (5, .int o484.1), (0, .ref (b)), (1, .ref (ax 0)), (2, .ref (ad 0)), (3, .ref (ob)), (4, .int y4)]) hx hb dL_law_499 hl (by decide) rfl (fun ls hl => ?_)
  refine lv_aload_n hx hb dL_law_501 rfl (lv_at hl 4 rfl) ?_
  obtain ⟨o502, hc502, h⟩ := az_bnd h
  refine az_callPi (wr := (az_ou g ob o484.2.1 :: az_wF g ax an au aw o484.2.2.1 o484.2.2.2.1 o484.2.2.2.2.1 o484.2.2.2.2.2)) (w2 := ((az_ou g ob o484.2.1 :: az_wF g ax an au aw o484.2.2.1 o484.2.2.2.1 o484.2.2.2.2.1 o484.2.2.2.2.2) ++ az_cM g ad (va_up Mo 2 o496.2))) (As := []) (rest := []) ⟨hx, hb, hml, hown, hts⟩ hl.1 (kX7_thrown l g ad (va_up Mo 2 o496.2)  o502 hc502) (cwV 0 hts gL_law_X7_thrown rfl rfl rfl (by decide +kernel) ⟨(Nat.le_of_ble_eq_true rfl), (Nat.le_of_ble_eq_true rfl)⟩) rfl hK hP hD hS hA List.perm_append_comm List.perm_append_comm 0 rfl rfl rfl (Nat.le_of_ble_eq_true rfl) dL_law_502 ⟨by show _ ≤ 601024; omega, by show _ ≤ 7293034; omega⟩ rfl (fun H locs hP hD hS => ?_)
  have hP : va_P g.1 az_cl (((az_ou g ob o484.2.1 :: az_wF g ax an au aw o484.2.2.1 o484.2.2.2.1 o484.2.2.2.2.1 o484.2.2.2.2.2) ++ az_cM g ad (va_up Mo 2 o496.2))) _ := hP
  have hD : va_D A (((az_ou g ob o484.2.1 :: az_wF g ax an au aw o484.2.2.1 o484.2.2.2.1 o484.2.2.2.2.1 o484.2.2.2.2.2) ++ az_cM g ad (va_up Mo 2 o496.2))) := hD
  refine lv_iload hx hb dL_law_505 (lv_at hl 1 rfl) ?_
  refine lv_icmp_eq (tgt := 512) hx hb dL_law_507 (by decide) (fun c507 => ?_) (fun c507 => ?_)
  · replace h := az_pos c507 h
    refine lv_iload hx hb dL_law_512 (lv_at hl 1 rfl) ?_
    refine lv_if_ne (tgt := 529) hx hb dL_law_514 (by decide) (fun c514 => ?_) (fun c514 => ?_)
    · replace h := az_neg c514 h
      refine lv_goto (tgt := 2624) hx hb dL_law_529 (by decide) ?_
      refine lv_iinc (v := y4 + (4 : Int32)) (lv' := [(4, .int (y4 + (4 : Int32))), (6, .int o496.1), (5, .int o484.1), (0, .ref (b)), (1, .ref (ax 0)), (2, .ref (ad 0)), (3, .ref (ob))]) hx hb dL_law_2624 hl (k := 6) rfl rfl (by decide) rfl (fun ls hl => ?_)
      refine lv_goto (tgt := 23) hx hb dL_law_2627 (by decide) ?_
      have hP : va_P g.1 az_cl (((az_ou g ob o484.2.1 :: az_wF g ax an au aw o484.2.2.1 o484.2.2.2.1 o484.2.2.2.2.1 o484.2.2.2.2.2) ++ az_cM g ad (va_up Mo 2 o496.2))) _ := hP
      have hD : va_D A (((az_ou g ob o484.2.1 :: az_wF g ax an au aw o484.2.2.1 o484.2.2.2.1 o484.2.2.2.2.1 o484.2.2.2.2.2) ++ az_cM g ad (va_up Mo 2 o496.2))) := hD
      exact ih _ _ _ _ _ _ _ _ _ _ _ _ (by omega) (by omega) h hP hD hS (lv_sub hl [3, 4, 5, 6, 0] rfl)
    · replace h := az_pos c514 h
      refine lv_aload_n hx hb dL_law_517 rfl (lv_at hl 5 rfl) ?_
      refine lv_iconst (v := (0 : Int32)) hx hb dL_law_518 (by decide) ?_
      refine va_lald (D := g.1) (f := o484.2.1) hx hb hK hP 0 2 rfl rfl (az_vin (by decide +kernel)) dL_law_519 ?_
      refine lv_iload hx hb dL_law_520 (lv_at hl 0 rfl) ?_
      refine lv_i2l (v := o496.1.toInt64) hx hb dL_law_522 rfl ?_
      refine W.lcmp hx hb dL_law_523 ?_
      refine lv_if_eq (tgt := 529) hx hb dL_law_524 (by decide) (fun c524 => ?_) (fun c524 => ?_)
      · replace h := az_pos c524 h
        refine lv_goto (tgt := 2624) hx hb dL_law_529 (by decide) ?_
        refine lv_iinc (v := y4 + (4 : Int32)) (lv' := [(4, .int (y4 + (4 : Int32))), (6, .int o496.1), (5, .int o484.1), (0, .ref (b)), (1, .ref (ax 0)), (2, .ref (ad 0)), (3, .ref (ob))]) hx hb dL_law_2624 hl (k := 6) rfl rfl (by decide) rfl (fun ls hl => ?_)
        refine lv_goto (tgt := 23) hx hb dL_law_2627 (by decide) ?_
        have hP : va_P g.1 az_cl (((az_ou g ob o484.2.1 :: az_wF g ax an au aw o484.2.2.1 o484.2.2.2.1 o484.2.2.2.2.1 o484.2.2.2.2.2) ++ az_cM g ad (va_up Mo 2 o496.2))) _ := hP
        have hD : va_D A (((az_ou g ob o484.2.1 :: az_wF g ax an au aw o484.2.2.1 o484.2.2.2.1 o484.2.2.2.2.1 o484.2.2.2.2.2) ++ az_cM g ad (va_up Mo 2 o496.2))) := hD
        exact ih _ _ _ _ _ _ _ _ _ _ _ _ (by omega) (by omega) h hP hD hS (lv_sub hl [3, 4, 5, 6, 0] rfl)
      · replace h := az_neg c524 h
        refine lv_iconst (v := (0 : Int32)) hx hb dL_law_527 (by decide) ?_
        exact absurd (Option.some.inj h) (by decide)
  · replace h := az_neg c507 h
    refine lv_iconst (v := (0 : Int32)) hx hb dL_law_510 (by decide) ?_
    exact absurd (Option.some.inj h) (by decide)
set_option maxHeartbeats 8000000 in
set_option maxRecDepth 100000 in
theorem LWC5 {p : Program} {e : Env} {s : State} {m : MethodId} {below : List Frame} {meth : Method} {c : Code} (l : Launch) (hst : l.stackTraces = false) {b L : Nat} {xs : Nat → Int32} (hL : L ≤ 2048) (C0 : lw_At p s m meth c b L xs) (g : az_G) (sa : Nat → Nat) (ax an au : Nat → Nat) (aw : Nat → Nat → Nat) (ob : Nat) (ad : Nat → Nat) (hX : va_X b L xs s s.heap) (hbl : b < s.heap.size) (hbA : ¬ (fun q : Nat => s.heap.size ≤ q) b) (hcx : az_cx sa (fun q : Nat => s.heap.size ≤ q) s s.heap) (hA : ∀ q : Nat, s.heap.size ≤ q → (fun q : Nat => s.heap.size ≤ q) q) (hK : va_K g.1 az_cl (az_tys g) s) (hts : ∀ w ∈ wsL_law, w.before #[Value.ref b] s = true) (n : Nat) (ih : ∀ (cn sn : Nat) (V T : az_St) (S : Nat → az_St) (hs : Nat → Int32) (Mo : az_St) (f : Nat → Int64) (y4 : Int32) (H : Heap) (locs : List Loc) (ls : Array Slot), cn + 6 * n ≤ 5000 → sn + 36 * n ≤ 60000 → F_law_L n xs L V T S hs Mo f y4 = some 1 → va_P g.1 az_cl (((az_ou g ob f :: az_wF g ax an au aw V T S hs) ++ az_cM g ad Mo)) H → va_D (fun q : Nat => s.heap.size ≤ q) (((az_ou g ob f :: az_wF g ax an au aw V T S hs) ++ az_cM g ad Mo)) → va_S (fun q : Nat => s.heap.size ≤ q) s.heap H locs → lv_has ls 7 [(0, .ref (b)), (1, .ref (ax 0)), (2, .ref (ad 0)), (3, .ref (ob)), (4, .int y4)] → W p l e room_1 s m #[Value.ref b] below meth c H locs cn sn (lw_Z below #[Value.ref b] s) (F0 m 23 ls [])) : ∀ (cn sn : Nat) (V T : az_St) (S : Nat → az_St) (hs : Nat → Int32) (Mo : az_St) (f : Nat → Int64) (y4 : Int32) (H : Heap) (locs : List Loc) (ls : Array Slot), cn + 6 * (n + 1) ≤ 5000 → sn + 36 * (n + 1) ≤ 60000 → ¬ ((Int32.ofNat L) - (4 : Int32) < y4) → az_in y4 L = true → F_law_C5 (fun V T S hs Mo f y4 => F_law_L n xs L V T S hs Mo f y4) xs L V T S hs Mo f y4 = some 1 → va_P g.1 az_cl (((az_ou g ob f :: az_wF g ax an au aw V T S hs) ++ az_cM g ad Mo)) H → va_D (fun q : Nat => s.heap.size ≤ q) (((az_ou g ob f :: az_wF g ax an au aw V T S hs) ++ az_cM g ad Mo)) → va_S (fun q : Nat => s.heap.size ≤ q) s.heap H locs → lv_has ls 7 [(0, .ref (b)), (1, .ref (ax 0)), (2, .ref (ad 0)), (3, .ref (ob)), (4, .int y4)] → W p l e room_1 s m #[Value.ref b] below meth c H locs cn sn (lw_Z below #[Value.ref b] s) (F0 m 532 ls []) := by
  intro cn sn V T S hs Mo f y4 H locs ls hcn hsn c29 i35 h hP hD hS hl
  obtain ⟨hx, hb, hr, hml, hown, -, -, -, hlocks, -⟩ := id C0
  unfold F_law_C5 at h
  obtain ⟨A, eA⟩ : ∃ A : Nat → Prop, A = (fun q : Nat => s.heap.size ≤ q) := ⟨_, rfl⟩
  rw [← eA] at hbA hcx hA hD hS ih
  refine lv_aload_n hx hb dL_law_532 rfl (lv_at hl 1 rfl) ?_
  obtain ⟨o533, hc533, h⟩ := az_bnd h
  refine az_callPi (w2 := ((az_ou g ob f :: az_wF g ax an au aw V T S hs) ++ az_cM g ad Mo)) (As := []) (rest := []) ⟨hx, hb, hml, hown, hts⟩ hl.1 (kX6_room l g ax an au (az_cV g au T ++ az_cH g ax aw S hs) V  o533 hc533) (cwV 0 hts gL_law_X6_room rfl rfl rfl (by decide +kernel) ⟨(Nat.le_of_ble_eq_true rfl), (Nat.le_of_ble_eq_true rfl)⟩) rfl hK hP hD hS hA (az_pm [az_ou g ob f] (az_wF g ax an au aw V T S hs) (az_cM g ad Mo)) (az_pm [az_ou g ob f] (az_wF g ax an au aw V T S hs) (az_cM g ad Mo)).symm 0 rfl rfl rfl (Nat.le_of_ble_eq_true rfl) dL_law_533 ⟨by show _ ≤ 601024; omega, by show _ ≤ 7293034; omega⟩ rfl (fun H locs hP hD hS => ?_)
  have hP : va_P g.1 az_cl (((az_ou g ob f :: az_wF g ax an au aw V T S hs) ++ az_cM g ad Mo)) _ := hP
  have hD : va_D A (((az_ou g ob f :: az_wF g ax an au aw V T S hs) ++ az_cM g ad Mo)) := hD
  refine lv_aload_n hx hb dL_law_536 rfl (lv_at hl 2 rfl) ?_
  obtain ⟨o537, hc537, h⟩ := az_bnd h
  refine az_callPi (wr := (az_ou g ob f :: az_wF g ax an au aw V T S hs)) (w2 := ((az_ou g ob f :: az_wF g ax an au aw V T S hs) ++ az_cM g ad (va_up Mo 2 o537.2))) (As := []) (rest := [.int o533]) ⟨hx, hb, hml, hown, hts⟩ hl.1 (kX7_room l g ad Mo  o537 hc537) (cwV 0 hts gL_law_X7_room rfl rfl rfl (by decide +kernel) ⟨(Nat.le_of_ble_eq_true rfl), (Nat.le_of_ble_eq_true rfl)⟩) rfl hK hP hD hS hA List.perm_append_comm List.perm_append_comm 0 rfl rfl rfl (Nat.le_of_ble_eq_true rfl) dL_law_537 ⟨by show _ ≤ 601024; omega, by show _ ≤ 7293034; omega⟩ rfl (fun H locs hP hD hS => ?_)
  have hP : va_P g.1 az_cl (((az_ou g ob f :: az_wF g ax an au aw V T S hs) ++ az_cM g ad (va_up Mo 2 o537.2))) _ := hP
  have hD : va_D A (((az_ou g ob f :: az_wF g ax an au aw V T S hs) ++ az_cM g ad (va_up Mo 2 o537.2))) := hD
  refine lv_icmp_eq (tgt := 2624) hx hb dL_law_540 (by decide) (fun c540 => ?_) (fun c540 => ?_)
  · replace h := az_pos c540 h
    refine lv_iinc (v := y4 + (4 : Int32)) (lv' := [(4, .int (y4 + (4 : Int32))), (0, .ref (b)), (1, .ref (ax 0)), (2, .ref (ad 0)), (3, .ref (ob))]) hx hb dL_law_2624 hl (k := 4) rfl rfl (by decide) rfl (fun ls hl => ?_)
    refine lv_goto (tgt := 23) hx hb dL_law_2627 (by decide) ?_
    have hP : va_P g.1 az_cl (((az_ou g ob f :: az_wF g ax an au aw V T S hs) ++ az_cM g ad (va_up Mo 2 o537.2))) _ := hP
    have hD : va_D A (((az_ou g ob f :: az_wF g ax an au aw V T S hs) ++ az_cM g ad (va_up Mo 2 o537.2))) := hD
    exact ih _ _ _ _ _ _ _ _ _ _ _ _ (by omega) (by omega) h hP hD hS (lv_sub hl [1, 2, 3, 4, 0] rfl)
  · replace h := az_neg c540 h
    refine lv_iconst (v := (0 : Int32)) hx hb dL_law_543 (by decide) ?_
    exact absurd (Option.some.inj h) (by decide)
set_option maxHeartbeats 8000000 in
set_option maxRecDepth 100000 in
theorem LWC6 {p : Program} {e : Env} {s : State} {m : MethodId} {below : List Frame} {meth : Method} {c : Code} (l : Launch) (hst : l.stackTraces = false) {b L : Nat} {xs : Nat → Int32} (hL : L ≤ 2048) (C0 : lw_At p s m meth c b L xs) (g : az_G) (sa : Nat → Nat) (ax an au : Nat → Nat) (aw : Nat → Nat → Nat) (ob : Nat) (ad : Nat → Nat) (hX : va_X b L xs s s.heap) (hbl : b < s.heap.size) (hbA : ¬ (fun q : Nat => s.heap.size ≤ q) b) (hcx : az_cx sa (fun q : Nat => s.heap.size ≤ q) s s.heap) (hA : ∀ q : Nat, s.heap.size ≤ q → (fun q : Nat => s.heap.size ≤ q) q) (hK : va_K g.1 az_cl (az_tys g) s) (hts : ∀ w ∈ wsL_law, w.before #[Value.ref b] s = true) (n : Nat) (ih : ∀ (cn sn : Nat) (V T : az_St) (S : Nat → az_St) (hs : Nat → Int32) (Mo : az_St) (f : Nat → Int64) (y4 : Int32) (H : Heap) (locs : List Loc) (ls : Array Slot), cn + 6 * n ≤ 5000 → sn + 36 * n ≤ 60000 → F_law_L n xs L V T S hs Mo f y4 = some 1 → va_P g.1 az_cl (((az_ou g ob f :: az_wF g ax an au aw V T S hs) ++ az_cM g ad Mo)) H → va_D (fun q : Nat => s.heap.size ≤ q) (((az_ou g ob f :: az_wF g ax an au aw V T S hs) ++ az_cM g ad Mo)) → va_S (fun q : Nat => s.heap.size ≤ q) s.heap H locs → lv_has ls 7 [(0, .ref (b)), (1, .ref (ax 0)), (2, .ref (ad 0)), (3, .ref (ob)), (4, .int y4)] → W p l e room_1 s m #[Value.ref b] below meth c H locs cn sn (lw_Z below #[Value.ref b] s) (F0 m 23 ls [])) : ∀ (cn sn : Nat) (V T : az_St) (S : Nat → az_St) (hs : Nat → Int32) (Mo : az_St) (f : Nat → Int64) (y4 : Int32) (H : Heap) (locs : List Loc) (ls : Array Slot), cn + 6 * (n + 1) ≤ 5000 → sn + 36 * (n + 1) ≤ 60000 → ¬ ((Int32.ofNat L) - (4 : Int32) < y4) → az_in y4 L = true → F_law_C6 (fun V T S hs Mo f y4 => F_law_L n xs L V T S hs Mo f y4) xs L V T S hs Mo f y4 = some 1 → va_P g.1 az_cl (((az_ou g ob f :: az_wF g ax an au aw V T S hs) ++ az_cM g ad Mo)) H → va_D (fun q : Nat => s.heap.size ≤ q) (((az_ou g ob f :: az_wF g ax an au aw V T S hs) ++ az_cM g ad Mo)) → va_S (fun q : Nat => s.heap.size ≤ q) s.heap H locs → lv_has ls 7 [(0, .ref (b)), (1, .ref (ax 0)), (2, .ref (ad 0)), (3, .ref (ob)), (4, .int y4)] → W p l e room_1 s m #[Value.ref b] below meth c H locs cn sn (lw_Z below #[Value.ref b] s) (F0 m 545 ls []) := by
  intro cn sn V T S hs Mo f y4 H locs ls hcn hsn c29 i35 h hP hD hS hl
  obtain ⟨hx, hb, hr, hml, hown, -, -, -, hlocks, -⟩ := id C0
  unfold F_law_C6 at h
  obtain ⟨A, eA⟩ : ∃ A : Nat → Prop, A = (fun q : Nat => s.heap.size ≤ q) := ⟨_, rfl⟩
  rw [← eA] at hbA hcx hA hD hS ih
  refine lv_aload_n hx hb dL_law_545 rfl (lv_at hl 1 rfl) ?_
  refine lv_aload_n hx hb dL_law_546 rfl (lv_at hl 0 rfl) ?_
  refine lv_iload hx hb dL_law_547 (lv_at hl 4 rfl) ?_
  refine lv_iconst (v := (1 : Int32)) hx hb dL_law_549 (by decide) ?_
  refine lv_iadd hx hb dL_law_550 ?_
  obtain ⟨i551, h⟩ := az_ite h
  refine va_sld hx hb hX hbl hbA hS (az_vin i551) dL_law_551 ?_
  refine lv_aload_n hx hb dL_law_552 rfl (lv_at hl 3 rfl) ?_
  obtain ⟨o553, hc553, h⟩ := az_bnd h
  refine az_callLW (wr := az_cM g ad Mo) (As := [.ref (ax 0), .int (xs (y4 + (1 : Int32)).toNatClampNeg), .ref (ob)]) (rest := []) ⟨hx, hb, hml, hown, hts⟩ hl.1 (kL_versions l hst g sa ax an au aw ob V T S hs f (xs (y4 + (1 : Int32)).toNatClampNeg) o553 hc553) (vx_cwSW (hh := [(0, 9, 12, 19)]) 3 hts gL_law_L_versions rfl rfl rfl (by decide +kernel) ⟨(Nat.le_of_ble_eq_true rfl), (Nat.le_of_ble_eq_true rfl)⟩) rfl hK hcx hP hD hS hA (Nat.le_of_ble_eq_true rfl) dL_law_553 ⟨by show _ ≤ 601024; omega, by show _ ≤ 7293034; omega⟩ rfl (fun H locs hP hD hS => ?_)
  have hP : va_P g.1 az_cl (((az_ou g ob o553.2.1 :: az_wF g ax an au aw o553.2.2.1 o553.2.2.2.1 o553.2.2.2.2.1 o553.2.2.2.2.2) ++ az_cM g ad Mo)) _ := hP
  have hD : va_D A (((az_ou g ob o553.2.1 :: az_wF g ax an au aw o553.2.2.1 o553.2.2.2.1 o553.2.2.2.2.1 o553.2.2.2.2.2) ++ az_cM g ad Mo)) := hD
  refine lv_istore (lv' := [(5, .int o553.1), (0, .ref (b)), (1, .ref (ax 0)), (2, .ref (ad 0)), (3, .ref (ob)), (4, .int y4)]) hx hb dL_law_556 hl (by decide) rfl (fun ls hl => ?_)
  refine lv_aload_n hx hb dL_law_558 rfl (lv_at hl 3 rfl) ?_
  refine lv_aload_n hx hb dL_law_559 rfl (lv_at hl 1 rfl) ?_
  refine lv_iload hx hb dL_law_560 (lv_at hl 5 rfl) ?_
  refine lv_iconst (v := (1 : Int32)) hx hb dL_law_562 (by decide) ?_
  refine lv_iadd hx hb dL_law_563 ?_
  refine va_sld hx hb hX hbl hbA hS (az_vin i551) dL_law_564 ?_
  obtain ⟨o565, hc565, h⟩ := az_bnd h
  refine az_callPi (wr := (az_ou g ob o553.2.1 :: az_wF g ax an au aw o553.2.2.1 o553.2.2.2.1 o553.2.2.2.2.1 o553.2.2.2.2.2)) (w2 := ((az_ou g ob o553.2.1 :: az_wF g ax an au aw o553.2.2.1 o553.2.2.2.1 o553.2.2.2.2.1 o553.2.2.2.2.2) ++ az_cM g ad (va_up Mo 2 o565.2))) (As := [.int (xs (y4 + (1 : Int32)).toNatClampNeg)]) (rest := []) ⟨hx, hb, hml, hown, hts⟩ hl.1 (kX7_versions l g ad Mo (xs (y4 + (1 : Int32)).toNatClampNeg) o565 hc565) (cwV 1 hts gL_law_X7_versions rfl rfl rfl (by decide +kernel) ⟨(Nat.le_of_ble_eq_true rfl), (Nat.le_of_ble_eq_true rfl)⟩) rfl hK hP hD hS hA List.perm_append_comm List.perm_append_comm 0 rfl rfl rfl (Nat.le_of_ble_eq_true rfl) dL_law_565 ⟨by show _ ≤ 601024; omega, by show _ ≤ 7293034; omega⟩ rfl (fun H locs hP hD hS => ?_)
  have hP : va_P g.1 az_cl (((az_ou g ob o553.2.1 :: az_wF g ax an au aw o553.2.2.1 o553.2.2.2.1 o553.2.2.2.2.1 o553.2.2.2.2.2) ++ az_cM g ad (va_up Mo 2 o565.2))) _ := hP
  have hD : va_D A (((az_ou g ob o553.2.1 :: az_wF g ax an au aw o553.2.2.1 o553.2.2.2.1 o553.2.2.2.2.1 o553.2.2.2.2.2) ++ az_cM g ad (va_up Mo 2 o565.2))) := hD
  refine lv_istore (lv' := [(6, .int o565.1), (5, .int o553.1), (0, .ref (b)), (1, .ref (ax 0)), (2, .ref (ad 0)), (3, .ref (ob)), (4, .int y4)]) hx hb dL_law_568 hl (by decide) rfl (fun ls hl => ?_)
  refine lv_aload_n hx hb dL_law_570 rfl (lv_at hl 4 rfl) ?_
  obtain ⟨o571, hc571, h⟩ := az_bnd h
  refine az_callPi (wr := (az_ou g ob o553.2.1 :: az_wF g ax an au aw o553.2.2.1 o553.2.2.2.1 o553.2.2.2.2.1 o553.2.2.2.2.2)) (w2 := ((az_ou g ob o553.2.1 :: az_wF g ax an au aw o553.2.2.1 o553.2.2.2.1 o553.2.2.2.2.1 o553.2.2.2.2.2) ++ az_cM g ad (va_up Mo 2 o565.2))) (As := []) (rest := []) ⟨hx, hb, hml, hown, hts⟩ hl.1 (kX7_thrown l g ad (va_up Mo 2 o565.2)  o571 hc571) (cwV 0 hts gL_law_X7_thrown rfl rfl rfl (by decide +kernel) ⟨(Nat.le_of_ble_eq_true rfl), (Nat.le_of_ble_eq_true rfl)⟩) rfl hK hP hD hS hA List.perm_append_comm List.perm_append_comm 0 rfl rfl rfl (Nat.le_of_ble_eq_true rfl) dL_law_571 ⟨by show _ ≤ 601024; omega, by show _ ≤ 7293034; omega⟩ rfl (fun H locs hP hD hS => ?_)
  have hP : va_P g.1 az_cl (((az_ou g ob o553.2.1 :: az_wF g ax an au aw o553.2.2.1 o553.2.2.2.1 o553.2.2.2.2.1 o553.2.2.2.2.2) ++ az_cM g ad (va_up Mo 2 o565.2))) _ := hP
  have hD : va_D A (((az_ou g ob o553.2.1 :: az_wF g ax an au aw o553.2.2.1 o553.2.2.2.1 o553.2.2.2.2.1 o553.2.2.2.2.2) ++ az_cM g ad (va_up Mo 2 o565.2))) := hD
  refine lv_iload hx hb dL_law_574 (lv_at hl 1 rfl) ?_
  refine lv_icmp_eq (tgt := 581) hx hb dL_law_576 (by decide) (fun c576 => ?_) (fun c576 => ?_)
  · replace h := az_pos c576 h
    refine lv_iload hx hb dL_law_581 (lv_at hl 1 rfl) ?_
    refine lv_if_ne (tgt := 598) hx hb dL_law_583 (by decide) (fun c583 => ?_) (fun c583 => ?_)
    · replace h := az_neg c583 h
      refine lv_goto (tgt := 2624) hx hb dL_law_598 (by decide) ?_
      refine lv_iinc (v := y4 + (4 : Int32)) (lv' := [(4, .int (y4 + (4 : Int32))), (6, .int o565.1), (5, .int o553.1), (0, .ref (b)), (1, .ref (ax 0)), (2, .ref (ad 0)), (3, .ref (ob))]) hx hb dL_law_2624 hl (k := 6) rfl rfl (by decide) rfl (fun ls hl => ?_)
      refine lv_goto (tgt := 23) hx hb dL_law_2627 (by decide) ?_
      have hP : va_P g.1 az_cl (((az_ou g ob o553.2.1 :: az_wF g ax an au aw o553.2.2.1 o553.2.2.2.1 o553.2.2.2.2.1 o553.2.2.2.2.2) ++ az_cM g ad (va_up Mo 2 o565.2))) _ := hP
      have hD : va_D A (((az_ou g ob o553.2.1 :: az_wF g ax an au aw o553.2.2.1 o553.2.2.2.1 o553.2.2.2.2.1 o553.2.2.2.2.2) ++ az_cM g ad (va_up Mo 2 o565.2))) := hD
      exact ih _ _ _ _ _ _ _ _ _ _ _ _ (by omega) (by omega) h hP hD hS (lv_sub hl [3, 4, 5, 6, 0] rfl)
    · replace h := az_pos c583 h
      refine lv_aload_n hx hb dL_law_586 rfl (lv_at hl 5 rfl) ?_
      refine lv_iconst (v := (0 : Int32)) hx hb dL_law_587 (by decide) ?_
      refine va_lald (D := g.1) (f := o553.2.1) hx hb hK hP 0 2 rfl rfl (az_vin (by decide +kernel)) dL_law_588 ?_
      refine lv_iload hx hb dL_law_589 (lv_at hl 0 rfl) ?_
      refine lv_i2l (v := o565.1.toInt64) hx hb dL_law_591 rfl ?_
      refine W.lcmp hx hb dL_law_592 ?_
      refine lv_if_eq (tgt := 598) hx hb dL_law_593 (by decide) (fun c593 => ?_) (fun c593 => ?_)
      · replace h := az_pos c593 h
        refine lv_goto (tgt := 2624) hx hb dL_law_598 (by decide) ?_
        refine lv_iinc (v := y4 + (4 : Int32)) (lv' := [(4, .int (y4 + (4 : Int32))), (6, .int o565.1), (5, .int o553.1), (0, .ref (b)), (1, .ref (ax 0)), (2, .ref (ad 0)), (3, .ref (ob))]) hx hb dL_law_2624 hl (k := 6) rfl rfl (by decide) rfl (fun ls hl => ?_)
        refine lv_goto (tgt := 23) hx hb dL_law_2627 (by decide) ?_
        have hP : va_P g.1 az_cl (((az_ou g ob o553.2.1 :: az_wF g ax an au aw o553.2.2.1 o553.2.2.2.1 o553.2.2.2.2.1 o553.2.2.2.2.2) ++ az_cM g ad (va_up Mo 2 o565.2))) _ := hP
        have hD : va_D A (((az_ou g ob o553.2.1 :: az_wF g ax an au aw o553.2.2.1 o553.2.2.2.1 o553.2.2.2.2.1 o553.2.2.2.2.2) ++ az_cM g ad (va_up Mo 2 o565.2))) := hD
        exact ih _ _ _ _ _ _ _ _ _ _ _ _ (by omega) (by omega) h hP hD hS (lv_sub hl [3, 4, 5, 6, 0] rfl)
      · replace h := az_neg c593 h
        refine lv_iconst (v := (0 : Int32)) hx hb dL_law_596 (by decide) ?_
        exact absurd (Option.some.inj h) (by decide)
  · replace h := az_neg c576 h
    refine lv_iconst (v := (0 : Int32)) hx hb dL_law_579 (by decide) ?_
    exact absurd (Option.some.inj h) (by decide)
set_option maxHeartbeats 8000000 in
set_option maxRecDepth 100000 in
theorem LWC7 {p : Program} {e : Env} {s : State} {m : MethodId} {below : List Frame} {meth : Method} {c : Code} (l : Launch) (hst : l.stackTraces = false) {b L : Nat} {xs : Nat → Int32} (hL : L ≤ 2048) (C0 : lw_At p s m meth c b L xs) (g : az_G) (sa : Nat → Nat) (ax an au : Nat → Nat) (aw : Nat → Nat → Nat) (ob : Nat) (ad : Nat → Nat) (hX : va_X b L xs s s.heap) (hbl : b < s.heap.size) (hbA : ¬ (fun q : Nat => s.heap.size ≤ q) b) (hcx : az_cx sa (fun q : Nat => s.heap.size ≤ q) s s.heap) (hA : ∀ q : Nat, s.heap.size ≤ q → (fun q : Nat => s.heap.size ≤ q) q) (hK : va_K g.1 az_cl (az_tys g) s) (hts : ∀ w ∈ wsL_law, w.before #[Value.ref b] s = true) (n : Nat) (ih : ∀ (cn sn : Nat) (V T : az_St) (S : Nat → az_St) (hs : Nat → Int32) (Mo : az_St) (f : Nat → Int64) (y4 : Int32) (H : Heap) (locs : List Loc) (ls : Array Slot), cn + 6 * n ≤ 5000 → sn + 36 * n ≤ 60000 → F_law_L n xs L V T S hs Mo f y4 = some 1 → va_P g.1 az_cl (((az_ou g ob f :: az_wF g ax an au aw V T S hs) ++ az_cM g ad Mo)) H → va_D (fun q : Nat => s.heap.size ≤ q) (((az_ou g ob f :: az_wF g ax an au aw V T S hs) ++ az_cM g ad Mo)) → va_S (fun q : Nat => s.heap.size ≤ q) s.heap H locs → lv_has ls 7 [(0, .ref (b)), (1, .ref (ax 0)), (2, .ref (ad 0)), (3, .ref (ob)), (4, .int y4)] → W p l e room_1 s m #[Value.ref b] below meth c H locs cn sn (lw_Z below #[Value.ref b] s) (F0 m 23 ls [])) : ∀ (cn sn : Nat) (V T : az_St) (S : Nat → az_St) (hs : Nat → Int32) (Mo : az_St) (f : Nat → Int64) (y4 : Int32) (H : Heap) (locs : List Loc) (ls : Array Slot), cn + 6 * (n + 1) ≤ 5000 → sn + 36 * (n + 1) ≤ 60000 → ¬ ((Int32.ofNat L) - (4 : Int32) < y4) → az_in y4 L = true → F_law_C7 (fun V T S hs Mo f y4 => F_law_L n xs L V T S hs Mo f y4) xs L V T S hs Mo f y4 = some 1 → va_P g.1 az_cl (((az_ou g ob f :: az_wF g ax an au aw V T S hs) ++ az_cM g ad Mo)) H → va_D (fun q : Nat => s.heap.size ≤ q) (((az_ou g ob f :: az_wF g ax an au aw V T S hs) ++ az_cM g ad Mo)) → va_S (fun q : Nat => s.heap.size ≤ q) s.heap H locs → lv_has ls 7 [(0, .ref (b)), (1, .ref (ax 0)), (2, .ref (ad 0)), (3, .ref (ob)), (4, .int y4)] → W p l e room_1 s m #[Value.ref b] below meth c H locs cn sn (lw_Z below #[Value.ref b] s) (F0 m 601 ls []) := by
  intro cn sn V T S hs Mo f y4 H locs ls hcn hsn c29 i35 h hP hD hS hl
  obtain ⟨hx, hb, hr, hml, hown, -, -, -, hlocks, -⟩ := id C0
  unfold F_law_C7 at h
  obtain ⟨A, eA⟩ : ∃ A : Nat → Prop, A = (fun q : Nat => s.heap.size ≤ q) := ⟨_, rfl⟩
  rw [← eA] at hbA hcx hA hD hS ih
  refine lv_aload_n hx hb dL_law_601 rfl (lv_at hl 1 rfl) ?_
  refine lv_aload_n hx hb dL_law_602 rfl (lv_at hl 0 rfl) ?_
  refine lv_iload hx hb dL_law_603 (lv_at hl 4 rfl) ?_
  refine lv_iconst (v := (1 : Int32)) hx hb dL_law_605 (by decide) ?_
  refine lv_iadd hx hb dL_law_606 ?_
  obtain ⟨i607, h⟩ := az_ite h
  refine va_sld hx hb hX hbl hbA hS (az_vin i607) dL_law_607 ?_
  refine lv_aload_n hx hb dL_law_608 rfl (lv_at hl 0 rfl) ?_
  refine lv_iload hx hb dL_law_609 (lv_at hl 4 rfl) ?_
  refine lv_iconst (v := (2 : Int32)) hx hb dL_law_611 (by decide) ?_
  refine lv_iadd hx hb dL_law_612 ?_
  obtain ⟨i613, h⟩ := az_ite h
  refine va_sld hx hb hX hbl hbA hS (az_vin i613) dL_law_613 ?_
  refine lv_aload_n hx hb dL_law_614 rfl (lv_at hl 3 rfl) ?_
  obtain ⟨o615, hc615, h⟩ := az_bnd h
  refine az_callLW (wr := az_cM g ad Mo) (As := [.ref (ax 0), .int (xs (y4 + (1 : Int32)).toNatClampNeg), .int (xs (y4 + (2 : Int32)).toNatClampNeg), .ref (ob)]) (rest := []) ⟨hx, hb, hml, hown, hts⟩ hl.1 (kL_version l hst g sa ax an au aw ob V T S hs f (xs (y4 + (1 : Int32)).toNatClampNeg) (xs (y4 + (2 : Int32)).toNatClampNeg) o615 hc615) (vx_cwSW (hh := [(0, 10, 13, 19)]) 4 hts gL_law_L_version rfl rfl rfl (by decide +kernel) ⟨(Nat.le_of_ble_eq_true rfl), (Nat.le_of_ble_eq_true rfl)⟩) rfl hK hcx hP hD hS hA (Nat.le_of_ble_eq_true rfl) dL_law_615 ⟨by show _ ≤ 601024; omega, by show _ ≤ 7293034; omega⟩ rfl (fun H locs hP hD hS => ?_)
  have hP : va_P g.1 az_cl (((az_ou g ob o615.2.1 :: az_wF g ax an au aw o615.2.2.1 o615.2.2.2.1 o615.2.2.2.2.1 o615.2.2.2.2.2) ++ az_cM g ad Mo)) _ := hP
  have hD : va_D A (((az_ou g ob o615.2.1 :: az_wF g ax an au aw o615.2.2.1 o615.2.2.2.1 o615.2.2.2.2.1 o615.2.2.2.2.2) ++ az_cM g ad Mo)) := hD
  refine lv_istore (lv' := [(5, .int o615.1), (0, .ref (b)), (1, .ref (ax 0)), (2, .ref (ad 0)), (3, .ref (ob)), (4, .int y4)]) hx hb dL_law_618 hl (by decide) rfl (fun ls hl => ?_)
  refine lv_aload_n hx hb dL_law_620 rfl (lv_at hl 3 rfl) ?_
  refine lv_aload_n hx hb dL_law_621 rfl (lv_at hl 1 rfl) ?_
  refine lv_iload hx hb dL_law_622 (lv_at hl 5 rfl) ?_
  refine lv_iconst (v := (1 : Int32)) hx hb dL_law_624 (by decide) ?_
  refine lv_iadd hx hb dL_law_625 ?_
  refine va_sld hx hb hX hbl hbA hS (az_vin i607) dL_law_626 ?_
  refine lv_aload_n hx hb dL_law_627 rfl (lv_at hl 1 rfl) ?_
  refine lv_iload hx hb dL_law_628 (lv_at hl 5 rfl) ?_
  refine lv_iconst (v := (2 : Int32)) hx hb dL_law_630 (by decide) ?_
  refine lv_iadd hx hb dL_law_631 ?_
  refine va_sld hx hb hX hbl hbA hS (az_vin i613) dL_law_632 ?_
  obtain ⟨o633, hc633, h⟩ := az_bnd h
  refine az_callPi (wr := (az_ou g ob o615.2.1 :: az_wF g ax an au aw o615.2.2.1 o615.2.2.2.1 o615.2.2.2.2.1 o615.2.2.2.2.2)) (w2 := ((az_ou g ob o615.2.1 :: az_wF g ax an au aw o615.2.2.1 o615.2.2.2.1 o615.2.2.2.2.1 o615.2.2.2.2.2) ++ az_cM g ad (va_up Mo 2 o633.2))) (As := [.int (xs (y4 + (1 : Int32)).toNatClampNeg), .int (xs (y4 + (2 : Int32)).toNatClampNeg)]) (rest := []) ⟨hx, hb, hml, hown, hts⟩ hl.1 (kX7_version l g ad Mo (xs (y4 + (1 : Int32)).toNatClampNeg) (xs (y4 + (2 : Int32)).toNatClampNeg) o633 hc633) (cwV 2 hts gL_law_X7_version rfl rfl rfl (by decide +kernel) ⟨(Nat.le_of_ble_eq_true rfl), (Nat.le_of_ble_eq_true rfl)⟩) rfl hK hP hD hS hA List.perm_append_comm List.perm_append_comm 0 rfl rfl rfl (Nat.le_of_ble_eq_true rfl) dL_law_633 ⟨by show _ ≤ 601024; omega, by show _ ≤ 7293034; omega⟩ rfl (fun H locs hP hD hS => ?_)
  have hP : va_P g.1 az_cl (((az_ou g ob o615.2.1 :: az_wF g ax an au aw o615.2.2.1 o615.2.2.2.1 o615.2.2.2.2.1 o615.2.2.2.2.2) ++ az_cM g ad (va_up Mo 2 o633.2))) _ := hP
  have hD : va_D A (((az_ou g ob o615.2.1 :: az_wF g ax an au aw o615.2.2.1 o615.2.2.2.1 o615.2.2.2.2.1 o615.2.2.2.2.2) ++ az_cM g ad (va_up Mo 2 o633.2))) := hD
  refine lv_istore (lv' := [(6, .int o633.1), (5, .int o615.1), (0, .ref (b)), (1, .ref (ax 0)), (2, .ref (ad 0)), (3, .ref (ob)), (4, .int y4)]) hx hb dL_law_636 hl (by decide) rfl (fun ls hl => ?_)
  refine lv_aload_n hx hb dL_law_638 rfl (lv_at hl 4 rfl) ?_
  obtain ⟨o639, hc639, h⟩ := az_bnd h
  refine az_callPi (wr := (az_ou g ob o615.2.1 :: az_wF g ax an au aw o615.2.2.1 o615.2.2.2.1 o615.2.2.2.2.1 o615.2.2.2.2.2)) (w2 := ((az_ou g ob o615.2.1 :: az_wF g ax an au aw o615.2.2.1 o615.2.2.2.1 o615.2.2.2.2.1 o615.2.2.2.2.2) ++ az_cM g ad (va_up Mo 2 o633.2))) (As := []) (rest := []) ⟨hx, hb, hml, hown, hts⟩ hl.1 (kX7_thrown l g ad (va_up Mo 2 o633.2)  o639 hc639) (cwV 0 hts gL_law_X7_thrown rfl rfl rfl (by decide +kernel) ⟨(Nat.le_of_ble_eq_true rfl), (Nat.le_of_ble_eq_true rfl)⟩) rfl hK hP hD hS hA List.perm_append_comm List.perm_append_comm 0 rfl rfl rfl (Nat.le_of_ble_eq_true rfl) dL_law_639 ⟨by show _ ≤ 601024; omega, by show _ ≤ 7293034; omega⟩ rfl (fun H locs hP hD hS => ?_)
  have hP : va_P g.1 az_cl (((az_ou g ob o615.2.1 :: az_wF g ax an au aw o615.2.2.1 o615.2.2.2.1 o615.2.2.2.2.1 o615.2.2.2.2.2) ++ az_cM g ad (va_up Mo 2 o633.2))) _ := hP
  have hD : va_D A (((az_ou g ob o615.2.1 :: az_wF g ax an au aw o615.2.2.1 o615.2.2.2.1 o615.2.2.2.2.1 o615.2.2.2.2.2) ++ az_cM g ad (va_up Mo 2 o633.2))) := hD
  refine lv_iload hx hb dL_law_642 (lv_at hl 1 rfl) ?_
  refine lv_icmp_eq (tgt := 649) hx hb dL_law_644 (by decide) (fun c644 => ?_) (fun c644 => ?_)
  · replace h := az_pos c644 h
    refine lv_iload hx hb dL_law_649 (lv_at hl 1 rfl) ?_
    refine lv_if_ne (tgt := 666) hx hb dL_law_651 (by decide) (fun c651 => ?_) (fun c651 => ?_)
    · replace h := az_neg c651 h
      refine lv_goto (tgt := 2624) hx hb dL_law_666 (by decide) ?_
      refine lv_iinc (v := y4 + (4 : Int32)) (lv' := [(4, .int (y4 + (4 : Int32))), (6, .int o633.1), (5, .int o615.1), (0, .ref (b)), (1, .ref (ax 0)), (2, .ref (ad 0)), (3, .ref (ob))]) hx hb dL_law_2624 hl (k := 6) rfl rfl (by decide) rfl (fun ls hl => ?_)
      refine lv_goto (tgt := 23) hx hb dL_law_2627 (by decide) ?_
      have hP : va_P g.1 az_cl (((az_ou g ob o615.2.1 :: az_wF g ax an au aw o615.2.2.1 o615.2.2.2.1 o615.2.2.2.2.1 o615.2.2.2.2.2) ++ az_cM g ad (va_up Mo 2 o633.2))) _ := hP
      have hD : va_D A (((az_ou g ob o615.2.1 :: az_wF g ax an au aw o615.2.2.1 o615.2.2.2.1 o615.2.2.2.2.1 o615.2.2.2.2.2) ++ az_cM g ad (va_up Mo 2 o633.2))) := hD
      exact ih _ _ _ _ _ _ _ _ _ _ _ _ (by omega) (by omega) h hP hD hS (lv_sub hl [3, 4, 5, 6, 0] rfl)
    · replace h := az_pos c651 h
      refine lv_aload_n hx hb dL_law_654 rfl (lv_at hl 5 rfl) ?_
      refine lv_iconst (v := (0 : Int32)) hx hb dL_law_655 (by decide) ?_
      refine va_lald (D := g.1) (f := o615.2.1) hx hb hK hP 0 2 rfl rfl (az_vin (by decide +kernel)) dL_law_656 ?_
      refine lv_iload hx hb dL_law_657 (lv_at hl 0 rfl) ?_
      refine lv_i2l (v := o633.1.toInt64) hx hb dL_law_659 rfl ?_
      refine W.lcmp hx hb dL_law_660 ?_
      refine lv_if_eq (tgt := 666) hx hb dL_law_661 (by decide) (fun c661 => ?_) (fun c661 => ?_)
      · replace h := az_pos c661 h
        refine lv_goto (tgt := 2624) hx hb dL_law_666 (by decide) ?_
        refine lv_iinc (v := y4 + (4 : Int32)) (lv' := [(4, .int (y4 + (4 : Int32))), (6, .int o633.1), (5, .int o615.1), (0, .ref (b)), (1, .ref (ax 0)), (2, .ref (ad 0)), (3, .ref (ob))]) hx hb dL_law_2624 hl (k := 6) rfl rfl (by decide) rfl (fun ls hl => ?_)
        refine lv_goto (tgt := 23) hx hb dL_law_2627 (by decide) ?_
        have hP : va_P g.1 az_cl (((az_ou g ob o615.2.1 :: az_wF g ax an au aw o615.2.2.1 o615.2.2.2.1 o615.2.2.2.2.1 o615.2.2.2.2.2) ++ az_cM g ad (va_up Mo 2 o633.2))) _ := hP
        have hD : va_D A (((az_ou g ob o615.2.1 :: az_wF g ax an au aw o615.2.2.1 o615.2.2.2.1 o615.2.2.2.2.1 o615.2.2.2.2.2) ++ az_cM g ad (va_up Mo 2 o633.2))) := hD
        exact ih _ _ _ _ _ _ _ _ _ _ _ _ (by omega) (by omega) h hP hD hS (lv_sub hl [3, 4, 5, 6, 0] rfl)
      · replace h := az_neg c661 h
        refine lv_iconst (v := (0 : Int32)) hx hb dL_law_664 (by decide) ?_
        exact absurd (Option.some.inj h) (by decide)
  · replace h := az_neg c644 h
    refine lv_iconst (v := (0 : Int32)) hx hb dL_law_647 (by decide) ?_
    exact absurd (Option.some.inj h) (by decide)
set_option maxHeartbeats 8000000 in
set_option maxRecDepth 100000 in
theorem LWC8 {p : Program} {e : Env} {s : State} {m : MethodId} {below : List Frame} {meth : Method} {c : Code} (l : Launch) (hst : l.stackTraces = false) {b L : Nat} {xs : Nat → Int32} (hL : L ≤ 2048) (C0 : lw_At p s m meth c b L xs) (g : az_G) (sa : Nat → Nat) (ax an au : Nat → Nat) (aw : Nat → Nat → Nat) (ob : Nat) (ad : Nat → Nat) (hX : va_X b L xs s s.heap) (hbl : b < s.heap.size) (hbA : ¬ (fun q : Nat => s.heap.size ≤ q) b) (hcx : az_cx sa (fun q : Nat => s.heap.size ≤ q) s s.heap) (hA : ∀ q : Nat, s.heap.size ≤ q → (fun q : Nat => s.heap.size ≤ q) q) (hK : va_K g.1 az_cl (az_tys g) s) (hts : ∀ w ∈ wsL_law, w.before #[Value.ref b] s = true) (n : Nat) (ih : ∀ (cn sn : Nat) (V T : az_St) (S : Nat → az_St) (hs : Nat → Int32) (Mo : az_St) (f : Nat → Int64) (y4 : Int32) (H : Heap) (locs : List Loc) (ls : Array Slot), cn + 6 * n ≤ 5000 → sn + 36 * n ≤ 60000 → F_law_L n xs L V T S hs Mo f y4 = some 1 → va_P g.1 az_cl (((az_ou g ob f :: az_wF g ax an au aw V T S hs) ++ az_cM g ad Mo)) H → va_D (fun q : Nat => s.heap.size ≤ q) (((az_ou g ob f :: az_wF g ax an au aw V T S hs) ++ az_cM g ad Mo)) → va_S (fun q : Nat => s.heap.size ≤ q) s.heap H locs → lv_has ls 7 [(0, .ref (b)), (1, .ref (ax 0)), (2, .ref (ad 0)), (3, .ref (ob)), (4, .int y4)] → W p l e room_1 s m #[Value.ref b] below meth c H locs cn sn (lw_Z below #[Value.ref b] s) (F0 m 23 ls [])) : ∀ (cn sn : Nat) (V T : az_St) (S : Nat → az_St) (hs : Nat → Int32) (Mo : az_St) (f : Nat → Int64) (y4 : Int32) (H : Heap) (locs : List Loc) (ls : Array Slot), cn + 6 * (n + 1) ≤ 5000 → sn + 36 * (n + 1) ≤ 60000 → ¬ ((Int32.ofNat L) - (4 : Int32) < y4) → az_in y4 L = true → F_law_C8 (fun V T S hs Mo f y4 => F_law_L n xs L V T S hs Mo f y4) xs L V T S hs Mo f y4 = some 1 → va_P g.1 az_cl (((az_ou g ob f :: az_wF g ax an au aw V T S hs) ++ az_cM g ad Mo)) H → va_D (fun q : Nat => s.heap.size ≤ q) (((az_ou g ob f :: az_wF g ax an au aw V T S hs) ++ az_cM g ad Mo)) → va_S (fun q : Nat => s.heap.size ≤ q) s.heap H locs → lv_has ls 7 [(0, .ref (b)), (1, .ref (ax 0)), (2, .ref (ad 0)), (3, .ref (ob)), (4, .int y4)] → W p l e room_1 s m #[Value.ref b] below meth c H locs cn sn (lw_Z below #[Value.ref b] s) (F0 m 669 ls []) := by
  intro cn sn V T S hs Mo f y4 H locs ls hcn hsn c29 i35 h hP hD hS hl
  obtain ⟨hx, hb, hr, hml, hown, -, -, -, hlocks, -⟩ := id C0
  unfold F_law_C8 at h
  obtain ⟨A, eA⟩ : ∃ A : Nat → Prop, A = (fun q : Nat => s.heap.size ≤ q) := ⟨_, rfl⟩
  rw [← eA] at hbA hcx hA hD hS ih
  refine lv_aload_n hx hb dL_law_669 rfl (lv_at hl 1 rfl) ?_
  refine lv_aload_n hx hb dL_law_670 rfl (lv_at hl 0 rfl) ?_
  refine lv_iload hx hb dL_law_671 (lv_at hl 4 rfl) ?_
  refine lv_iconst (v := (1 : Int32)) hx hb dL_law_673 (by decide) ?_
  refine lv_iadd hx hb dL_law_674 ?_
  obtain ⟨i675, h⟩ := az_ite h
  refine va_sld hx hb hX hbl hbA hS (az_vin i675) dL_law_675 ?_
  refine lv_aload_n hx hb dL_law_676 rfl (lv_at hl 3 rfl) ?_
  obtain ⟨o677, hc677, h⟩ := az_bnd h
  refine az_callLW (wr := az_cM g ad Mo) (As := [.ref (ax 0), .int (xs (y4 + (1 : Int32)).toNatClampNeg), .ref (ob)]) (rest := []) ⟨hx, hb, hml, hown, hts⟩ hl.1 (kL_takeSnapshot l hst g sa ax an au aw ob V T S hs f (xs (y4 + (1 : Int32)).toNatClampNeg) o677 hc677) (vx_cwSW (hh := [(0, 9, 12, 19), (0, 9, 15, 21)]) 3 hts gL_law_L_takeSnapshot rfl rfl rfl (by decide +kernel) ⟨(Nat.le_of_ble_eq_true rfl), (Nat.le_of_ble_eq_true rfl)⟩) rfl hK hcx hP hD hS hA (Nat.le_of_ble_eq_true rfl) dL_law_677 ⟨by show _ ≤ 601024; omega, by show _ ≤ 7293034; omega⟩ rfl (fun H locs hP hD hS => ?_)
  have hP : va_P g.1 az_cl (((az_ou g ob o677.2.1 :: az_wF g ax an au aw o677.2.2.1 o677.2.2.2.1 o677.2.2.2.2.1 o677.2.2.2.2.2) ++ az_cM g ad Mo)) _ := hP
  have hD : va_D A (((az_ou g ob o677.2.1 :: az_wF g ax an au aw o677.2.2.1 o677.2.2.2.1 o677.2.2.2.2.1 o677.2.2.2.2.2) ++ az_cM g ad Mo)) := hD
  refine lv_istore (lv' := [(5, .int o677.1), (0, .ref (b)), (1, .ref (ax 0)), (2, .ref (ad 0)), (3, .ref (ob)), (4, .int y4)]) hx hb dL_law_680 hl (by decide) rfl (fun ls hl => ?_)
  refine lv_aload_n hx hb dL_law_682 rfl (lv_at hl 3 rfl) ?_
  refine lv_aload_n hx hb dL_law_683 rfl (lv_at hl 1 rfl) ?_
  refine lv_iload hx hb dL_law_684 (lv_at hl 5 rfl) ?_
  refine lv_iconst (v := (1 : Int32)) hx hb dL_law_686 (by decide) ?_
  refine lv_iadd hx hb dL_law_687 ?_
  refine va_sld hx hb hX hbl hbA hS (az_vin i675) dL_law_688 ?_
  obtain ⟨o689, hc689, h⟩ := az_bnd h
  refine az_callPi (wr := (az_ou g ob o677.2.1 :: az_wF g ax an au aw o677.2.2.1 o677.2.2.2.1 o677.2.2.2.2.1 o677.2.2.2.2.2)) (w2 := ((az_ou g ob o677.2.1 :: az_wF g ax an au aw o677.2.2.1 o677.2.2.2.1 o677.2.2.2.2.1 o677.2.2.2.2.2) ++ az_cM g ad (va_up (va_up (va_up Mo 0 o689.2.1) 1 o689.2.2.1) 2 o689.2.2.2))) (As := [.int (xs (y4 + (1 : Int32)).toNatClampNeg)]) (rest := []) ⟨hx, hb, hml, hown, hts⟩ hl.1 (kX7_takeSnapshot l g ad Mo (xs (y4 + (1 : Int32)).toNatClampNeg) o689 hc689) (cwV 1 hts gL_law_X7_takeSnapshot rfl rfl rfl (by decide +kernel) ⟨(Nat.le_of_ble_eq_true rfl), (Nat.le_of_ble_eq_true rfl)⟩) rfl hK hP hD hS hA List.perm_append_comm List.perm_append_comm 0 rfl rfl rfl (Nat.le_of_ble_eq_true rfl) dL_law_689 ⟨by show _ ≤ 601024; omega, by show _ ≤ 7293034; omega⟩ rfl (fun H locs hP hD hS => ?_)
  have hP : va_P g.1 az_cl (((az_ou g ob o677.2.1 :: az_wF g ax an au aw o677.2.2.1 o677.2.2.2.1 o677.2.2.2.2.1 o677.2.2.2.2.2) ++ az_cM g ad (va_up (va_up (va_up Mo 0 o689.2.1) 1 o689.2.2.1) 2 o689.2.2.2))) _ := hP
  have hD : va_D A (((az_ou g ob o677.2.1 :: az_wF g ax an au aw o677.2.2.1 o677.2.2.2.1 o677.2.2.2.2.1 o677.2.2.2.2.2) ++ az_cM g ad (va_up (va_up (va_up Mo 0 o689.2.1) 1 o689.2.2.1) 2 o689.2.2.2))) := hD
  refine lv_istore (lv' := [(6, .int o689.1), (5, .int o677.1), (0, .ref (b)), (1, .ref (ax 0)), (2, .ref (ad 0)), (3, .ref (ob)), (4, .int y4)]) hx hb dL_law_692 hl (by decide) rfl (fun ls hl => ?_)
  refine lv_aload_n hx hb dL_law_694 rfl (lv_at hl 4 rfl) ?_
  obtain ⟨o695, hc695, h⟩ := az_bnd h
  refine az_callPi (wr := (az_ou g ob o677.2.1 :: az_wF g ax an au aw o677.2.2.1 o677.2.2.2.1 o677.2.2.2.2.1 o677.2.2.2.2.2)) (w2 := ((az_ou g ob o677.2.1 :: az_wF g ax an au aw o677.2.2.1 o677.2.2.2.1 o677.2.2.2.2.1 o677.2.2.2.2.2) ++ az_cM g ad (va_up (va_up (va_up Mo 0 o689.2.1) 1 o689.2.2.1) 2 o689.2.2.2))) (As := []) (rest := []) ⟨hx, hb, hml, hown, hts⟩ hl.1 (kX7_thrown l g ad (va_up (va_up (va_up Mo 0 o689.2.1) 1 o689.2.2.1) 2 o689.2.2.2)  o695 hc695) (cwV 0 hts gL_law_X7_thrown rfl rfl rfl (by decide +kernel) ⟨(Nat.le_of_ble_eq_true rfl), (Nat.le_of_ble_eq_true rfl)⟩) rfl hK hP hD hS hA List.perm_append_comm List.perm_append_comm 0 rfl rfl rfl (Nat.le_of_ble_eq_true rfl) dL_law_695 ⟨by show _ ≤ 601024; omega, by show _ ≤ 7293034; omega⟩ rfl (fun H locs hP hD hS => ?_)
  have hP : va_P g.1 az_cl (((az_ou g ob o677.2.1 :: az_wF g ax an au aw o677.2.2.1 o677.2.2.2.1 o677.2.2.2.2.1 o677.2.2.2.2.2) ++ az_cM g ad (va_up (va_up (va_up Mo 0 o689.2.1) 1 o689.2.2.1) 2 o689.2.2.2))) _ := hP
  have hD : va_D A (((az_ou g ob o677.2.1 :: az_wF g ax an au aw o677.2.2.1 o677.2.2.2.1 o677.2.2.2.2.1 o677.2.2.2.2.2) ++ az_cM g ad (va_up (va_up (va_up Mo 0 o689.2.1) 1 o689.2.2.1) 2 o689.2.2.2))) := hD
  refine lv_iload hx hb dL_law_698 (lv_at hl 1 rfl) ?_
  refine lv_icmp_eq (tgt := 705) hx hb dL_law_700 (by decide) (fun c700 => ?_) (fun c700 => ?_)
  · replace h := az_pos c700 h
    refine lv_iload hx hb dL_law_705 (lv_at hl 1 rfl) ?_
    refine lv_if_ne (tgt := 722) hx hb dL_law_707 (by decide) (fun c707 => ?_) (fun c707 => ?_)
    · replace h := az_neg c707 h
      refine lv_goto (tgt := 2624) hx hb dL_law_722 (by decide) ?_
      refine lv_iinc (v := y4 + (4 : Int32)) (lv' := [(4, .int (y4 + (4 : Int32))), (6, .int o689.1), (5, .int o677.1), (0, .ref (b)), (1, .ref (ax 0)), (2, .ref (ad 0)), (3, .ref (ob))]) hx hb dL_law_2624 hl (k := 6) rfl rfl (by decide) rfl (fun ls hl => ?_)
      refine lv_goto (tgt := 23) hx hb dL_law_2627 (by decide) ?_
      have hP : va_P g.1 az_cl (((az_ou g ob o677.2.1 :: az_wF g ax an au aw o677.2.2.1 o677.2.2.2.1 o677.2.2.2.2.1 o677.2.2.2.2.2) ++ az_cM g ad (va_up (va_up (va_up Mo 0 o689.2.1) 1 o689.2.2.1) 2 o689.2.2.2))) _ := hP
      have hD : va_D A (((az_ou g ob o677.2.1 :: az_wF g ax an au aw o677.2.2.1 o677.2.2.2.1 o677.2.2.2.2.1 o677.2.2.2.2.2) ++ az_cM g ad (va_up (va_up (va_up Mo 0 o689.2.1) 1 o689.2.2.1) 2 o689.2.2.2))) := hD
      exact ih _ _ _ _ _ _ _ _ _ _ _ _ (by omega) (by omega) h hP hD hS (lv_sub hl [3, 4, 5, 6, 0] rfl)
    · replace h := az_pos c707 h
      refine lv_aload_n hx hb dL_law_710 rfl (lv_at hl 5 rfl) ?_
      refine lv_iconst (v := (0 : Int32)) hx hb dL_law_711 (by decide) ?_
      refine va_lald (D := g.1) (f := o677.2.1) hx hb hK hP 0 2 rfl rfl (az_vin (by decide +kernel)) dL_law_712 ?_
      refine lv_iload hx hb dL_law_713 (lv_at hl 0 rfl) ?_
      refine lv_i2l (v := o689.1.toInt64) hx hb dL_law_715 rfl ?_
      refine W.lcmp hx hb dL_law_716 ?_
      refine lv_if_eq (tgt := 722) hx hb dL_law_717 (by decide) (fun c717 => ?_) (fun c717 => ?_)
      · replace h := az_pos c717 h
        refine lv_goto (tgt := 2624) hx hb dL_law_722 (by decide) ?_
        refine lv_iinc (v := y4 + (4 : Int32)) (lv' := [(4, .int (y4 + (4 : Int32))), (6, .int o689.1), (5, .int o677.1), (0, .ref (b)), (1, .ref (ax 0)), (2, .ref (ad 0)), (3, .ref (ob))]) hx hb dL_law_2624 hl (k := 6) rfl rfl (by decide) rfl (fun ls hl => ?_)
        refine lv_goto (tgt := 23) hx hb dL_law_2627 (by decide) ?_
        have hP : va_P g.1 az_cl (((az_ou g ob o677.2.1 :: az_wF g ax an au aw o677.2.2.1 o677.2.2.2.1 o677.2.2.2.2.1 o677.2.2.2.2.2) ++ az_cM g ad (va_up (va_up (va_up Mo 0 o689.2.1) 1 o689.2.2.1) 2 o689.2.2.2))) _ := hP
        have hD : va_D A (((az_ou g ob o677.2.1 :: az_wF g ax an au aw o677.2.2.1 o677.2.2.2.1 o677.2.2.2.2.1 o677.2.2.2.2.2) ++ az_cM g ad (va_up (va_up (va_up Mo 0 o689.2.1) 1 o689.2.2.1) 2 o689.2.2.2))) := hD
        exact ih _ _ _ _ _ _ _ _ _ _ _ _ (by omega) (by omega) h hP hD hS (lv_sub hl [3, 4, 5, 6, 0] rfl)
      · replace h := az_neg c717 h
        refine lv_iconst (v := (0 : Int32)) hx hb dL_law_720 (by decide) ?_
        exact absurd (Option.some.inj h) (by decide)
  · replace h := az_neg c700 h
    refine lv_iconst (v := (0 : Int32)) hx hb dL_law_703 (by decide) ?_
    exact absurd (Option.some.inj h) (by decide)
set_option maxHeartbeats 8000000 in
set_option maxRecDepth 100000 in
theorem LWC9 {p : Program} {e : Env} {s : State} {m : MethodId} {below : List Frame} {meth : Method} {c : Code} (l : Launch) (hst : l.stackTraces = false) {b L : Nat} {xs : Nat → Int32} (hL : L ≤ 2048) (C0 : lw_At p s m meth c b L xs) (g : az_G) (sa : Nat → Nat) (ax an au : Nat → Nat) (aw : Nat → Nat → Nat) (ob : Nat) (ad : Nat → Nat) (hX : va_X b L xs s s.heap) (hbl : b < s.heap.size) (hbA : ¬ (fun q : Nat => s.heap.size ≤ q) b) (hcx : az_cx sa (fun q : Nat => s.heap.size ≤ q) s s.heap) (hA : ∀ q : Nat, s.heap.size ≤ q → (fun q : Nat => s.heap.size ≤ q) q) (hK : va_K g.1 az_cl (az_tys g) s) (hts : ∀ w ∈ wsL_law, w.before #[Value.ref b] s = true) (n : Nat) (ih : ∀ (cn sn : Nat) (V T : az_St) (S : Nat → az_St) (hs : Nat → Int32) (Mo : az_St) (f : Nat → Int64) (y4 : Int32) (H : Heap) (locs : List Loc) (ls : Array Slot), cn + 6 * n ≤ 5000 → sn + 36 * n ≤ 60000 → F_law_L n xs L V T S hs Mo f y4 = some 1 → va_P g.1 az_cl (((az_ou g ob f :: az_wF g ax an au aw V T S hs) ++ az_cM g ad Mo)) H → va_D (fun q : Nat => s.heap.size ≤ q) (((az_ou g ob f :: az_wF g ax an au aw V T S hs) ++ az_cM g ad Mo)) → va_S (fun q : Nat => s.heap.size ≤ q) s.heap H locs → lv_has ls 7 [(0, .ref (b)), (1, .ref (ax 0)), (2, .ref (ad 0)), (3, .ref (ob)), (4, .int y4)] → W p l e room_1 s m #[Value.ref b] below meth c H locs cn sn (lw_Z below #[Value.ref b] s) (F0 m 23 ls [])) : ∀ (cn sn : Nat) (V T : az_St) (S : Nat → az_St) (hs : Nat → Int32) (Mo : az_St) (f : Nat → Int64) (y4 : Int32) (H : Heap) (locs : List Loc) (ls : Array Slot), cn + 6 * (n + 1) ≤ 5000 → sn + 36 * (n + 1) ≤ 60000 → ¬ ((Int32.ofNat L) - (4 : Int32) < y4) → az_in y4 L = true → F_law_C9 (fun V T S hs Mo f y4 => F_law_L n xs L V T S hs Mo f y4) xs L V T S hs Mo f y4 = some 1 → va_P g.1 az_cl (((az_ou g ob f :: az_wF g ax an au aw V T S hs) ++ az_cM g ad Mo)) H → va_D (fun q : Nat => s.heap.size ≤ q) (((az_ou g ob f :: az_wF g ax an au aw V T S hs) ++ az_cM g ad Mo)) → va_S (fun q : Nat => s.heap.size ≤ q) s.heap H locs → lv_has ls 7 [(0, .ref (b)), (1, .ref (ax 0)), (2, .ref (ad 0)), (3, .ref (ob)), (4, .int y4)] → W p l e room_1 s m #[Value.ref b] below meth c H locs cn sn (lw_Z below #[Value.ref b] s) (F0 m 725 ls []) := by
  intro cn sn V T S hs Mo f y4 H locs ls hcn hsn c29 i35 h hP hD hS hl
  obtain ⟨hx, hb, hr, hml, hown, -, -, -, hlocks, -⟩ := id C0
  unfold F_law_C9 at h
  obtain ⟨A, eA⟩ : ∃ A : Nat → Prop, A = (fun q : Nat => s.heap.size ≤ q) := ⟨_, rfl⟩
  rw [← eA] at hbA hcx hA hD hS ih
  refine lv_aload_n hx hb dL_law_725 rfl (lv_at hl 1 rfl) ?_
  refine lv_aload_n hx hb dL_law_726 rfl (lv_at hl 0 rfl) ?_
  refine lv_iload hx hb dL_law_727 (lv_at hl 4 rfl) ?_
  refine lv_iconst (v := (1 : Int32)) hx hb dL_law_729 (by decide) ?_
  refine lv_iadd hx hb dL_law_730 ?_
  obtain ⟨i731, h⟩ := az_ite h
  refine va_sld hx hb hX hbl hbA hS (az_vin i731) dL_law_731 ?_
  refine lv_aload_n hx hb dL_law_732 rfl (lv_at hl 3 rfl) ?_
  obtain ⟨o733, hc733, h⟩ := az_bnd h
  refine az_callLW (wr := az_cM g ad Mo) (As := [.ref (ax 0), .int (xs (y4 + (1 : Int32)).toNatClampNeg), .ref (ob)]) (rest := []) ⟨hx, hb, hml, hown, hts⟩ hl.1 (kL_dropSnapshot l hst g sa ax an au aw ob V T S hs f (xs (y4 + (1 : Int32)).toNatClampNeg) o733 hc733) (vx_cwSW (hh := [(0, 9, 12, 19), (0, 9, 15, 21)]) 3 hts gL_law_L_dropSnapshot rfl rfl rfl (by decide +kernel) ⟨(Nat.le_of_ble_eq_true rfl), (Nat.le_of_ble_eq_true rfl)⟩) rfl hK hcx hP hD hS hA (Nat.le_of_ble_eq_true rfl) dL_law_733 ⟨by show _ ≤ 601024; omega, by show _ ≤ 7293034; omega⟩ rfl (fun H locs hP hD hS => ?_)
  have hP : va_P g.1 az_cl (((az_ou g ob o733.2.1 :: az_wF g ax an au aw o733.2.2.1 o733.2.2.2.1 o733.2.2.2.2.1 o733.2.2.2.2.2) ++ az_cM g ad Mo)) _ := hP
  have hD : va_D A (((az_ou g ob o733.2.1 :: az_wF g ax an au aw o733.2.2.1 o733.2.2.2.1 o733.2.2.2.2.1 o733.2.2.2.2.2) ++ az_cM g ad Mo)) := hD
  refine lv_istore (lv' := [(5, .int o733.1), (0, .ref (b)), (1, .ref (ax 0)), (2, .ref (ad 0)), (3, .ref (ob)), (4, .int y4)]) hx hb dL_law_736 hl (by decide) rfl (fun ls hl => ?_)
  refine lv_aload_n hx hb dL_law_738 rfl (lv_at hl 3 rfl) ?_
  refine lv_aload_n hx hb dL_law_739 rfl (lv_at hl 1 rfl) ?_
  refine lv_iload hx hb dL_law_740 (lv_at hl 5 rfl) ?_
  refine lv_iconst (v := (1 : Int32)) hx hb dL_law_742 (by decide) ?_
  refine lv_iadd hx hb dL_law_743 ?_
  refine va_sld hx hb hX hbl hbA hS (az_vin i731) dL_law_744 ?_
  obtain ⟨o745, hc745, h⟩ := az_bnd h
  refine az_callPi (wr := (az_ou g ob o733.2.1 :: az_wF g ax an au aw o733.2.2.1 o733.2.2.2.1 o733.2.2.2.2.1 o733.2.2.2.2.2)) (w2 := ((az_ou g ob o733.2.1 :: az_wF g ax an au aw o733.2.2.1 o733.2.2.2.1 o733.2.2.2.2.1 o733.2.2.2.2.2) ++ az_cM g ad (va_up (va_up (va_up Mo 0 o745.2.1) 1 o745.2.2.1) 2 o745.2.2.2))) (As := [.int (xs (y4 + (1 : Int32)).toNatClampNeg)]) (rest := []) ⟨hx, hb, hml, hown, hts⟩ hl.1 (kX7_dropSnapshot l g ad Mo (xs (y4 + (1 : Int32)).toNatClampNeg) o745 hc745) (cwV 1 hts gL_law_X7_dropSnapshot rfl rfl rfl (by decide +kernel) ⟨(Nat.le_of_ble_eq_true rfl), (Nat.le_of_ble_eq_true rfl)⟩) rfl hK hP hD hS hA List.perm_append_comm List.perm_append_comm 0 rfl rfl rfl (Nat.le_of_ble_eq_true rfl) dL_law_745 ⟨by show _ ≤ 601024; omega, by show _ ≤ 7293034; omega⟩ rfl (fun H locs hP hD hS => ?_)
  have hP : va_P g.1 az_cl (((az_ou g ob o733.2.1 :: az_wF g ax an au aw o733.2.2.1 o733.2.2.2.1 o733.2.2.2.2.1 o733.2.2.2.2.2) ++ az_cM g ad (va_up (va_up (va_up Mo 0 o745.2.1) 1 o745.2.2.1) 2 o745.2.2.2))) _ := hP
  have hD : va_D A (((az_ou g ob o733.2.1 :: az_wF g ax an au aw o733.2.2.1 o733.2.2.2.1 o733.2.2.2.2.1 o733.2.2.2.2.2) ++ az_cM g ad (va_up (va_up (va_up Mo 0 o745.2.1) 1 o745.2.2.1) 2 o745.2.2.2))) := hD
  refine lv_istore (lv' := [(6, .int o745.1), (5, .int o733.1), (0, .ref (b)), (1, .ref (ax 0)), (2, .ref (ad 0)), (3, .ref (ob)), (4, .int y4)]) hx hb dL_law_748 hl (by decide) rfl (fun ls hl => ?_)
  refine lv_aload_n hx hb dL_law_750 rfl (lv_at hl 4 rfl) ?_
  obtain ⟨o751, hc751, h⟩ := az_bnd h
  refine az_callPi (wr := (az_ou g ob o733.2.1 :: az_wF g ax an au aw o733.2.2.1 o733.2.2.2.1 o733.2.2.2.2.1 o733.2.2.2.2.2)) (w2 := ((az_ou g ob o733.2.1 :: az_wF g ax an au aw o733.2.2.1 o733.2.2.2.1 o733.2.2.2.2.1 o733.2.2.2.2.2) ++ az_cM g ad (va_up (va_up (va_up Mo 0 o745.2.1) 1 o745.2.2.1) 2 o745.2.2.2))) (As := []) (rest := []) ⟨hx, hb, hml, hown, hts⟩ hl.1 (kX7_thrown l g ad (va_up (va_up (va_up Mo 0 o745.2.1) 1 o745.2.2.1) 2 o745.2.2.2)  o751 hc751) (cwV 0 hts gL_law_X7_thrown rfl rfl rfl (by decide +kernel) ⟨(Nat.le_of_ble_eq_true rfl), (Nat.le_of_ble_eq_true rfl)⟩) rfl hK hP hD hS hA List.perm_append_comm List.perm_append_comm 0 rfl rfl rfl (Nat.le_of_ble_eq_true rfl) dL_law_751 ⟨by show _ ≤ 601024; omega, by show _ ≤ 7293034; omega⟩ rfl (fun H locs hP hD hS => ?_)
  have hP : va_P g.1 az_cl (((az_ou g ob o733.2.1 :: az_wF g ax an au aw o733.2.2.1 o733.2.2.2.1 o733.2.2.2.2.1 o733.2.2.2.2.2) ++ az_cM g ad (va_up (va_up (va_up Mo 0 o745.2.1) 1 o745.2.2.1) 2 o745.2.2.2))) _ := hP
  have hD : va_D A (((az_ou g ob o733.2.1 :: az_wF g ax an au aw o733.2.2.1 o733.2.2.2.1 o733.2.2.2.2.1 o733.2.2.2.2.2) ++ az_cM g ad (va_up (va_up (va_up Mo 0 o745.2.1) 1 o745.2.2.1) 2 o745.2.2.2))) := hD
  refine lv_iload hx hb dL_law_754 (lv_at hl 1 rfl) ?_
  refine lv_icmp_eq (tgt := 761) hx hb dL_law_756 (by decide) (fun c756 => ?_) (fun c756 => ?_)
  · replace h := az_pos c756 h
    refine lv_iload hx hb dL_law_761 (lv_at hl 1 rfl) ?_
    refine lv_if_ne (tgt := 778) hx hb dL_law_763 (by decide) (fun c763 => ?_) (fun c763 => ?_)
    · replace h := az_neg c763 h
      refine lv_goto (tgt := 2624) hx hb dL_law_778 (by decide) ?_
      refine lv_iinc (v := y4 + (4 : Int32)) (lv' := [(4, .int (y4 + (4 : Int32))), (6, .int o745.1), (5, .int o733.1), (0, .ref (b)), (1, .ref (ax 0)), (2, .ref (ad 0)), (3, .ref (ob))]) hx hb dL_law_2624 hl (k := 6) rfl rfl (by decide) rfl (fun ls hl => ?_)
      refine lv_goto (tgt := 23) hx hb dL_law_2627 (by decide) ?_
      have hP : va_P g.1 az_cl (((az_ou g ob o733.2.1 :: az_wF g ax an au aw o733.2.2.1 o733.2.2.2.1 o733.2.2.2.2.1 o733.2.2.2.2.2) ++ az_cM g ad (va_up (va_up (va_up Mo 0 o745.2.1) 1 o745.2.2.1) 2 o745.2.2.2))) _ := hP
      have hD : va_D A (((az_ou g ob o733.2.1 :: az_wF g ax an au aw o733.2.2.1 o733.2.2.2.1 o733.2.2.2.2.1 o733.2.2.2.2.2) ++ az_cM g ad (va_up (va_up (va_up Mo 0 o745.2.1) 1 o745.2.2.1) 2 o745.2.2.2))) := hD
      exact ih _ _ _ _ _ _ _ _ _ _ _ _ (by omega) (by omega) h hP hD hS (lv_sub hl [3, 4, 5, 6, 0] rfl)
    · replace h := az_pos c763 h
      refine lv_aload_n hx hb dL_law_766 rfl (lv_at hl 5 rfl) ?_
      refine lv_iconst (v := (0 : Int32)) hx hb dL_law_767 (by decide) ?_
      refine va_lald (D := g.1) (f := o733.2.1) hx hb hK hP 0 2 rfl rfl (az_vin (by decide +kernel)) dL_law_768 ?_
      refine lv_iload hx hb dL_law_769 (lv_at hl 0 rfl) ?_
      refine lv_i2l (v := o745.1.toInt64) hx hb dL_law_771 rfl ?_
      refine W.lcmp hx hb dL_law_772 ?_
      refine lv_if_eq (tgt := 778) hx hb dL_law_773 (by decide) (fun c773 => ?_) (fun c773 => ?_)
      · replace h := az_pos c773 h
        refine lv_goto (tgt := 2624) hx hb dL_law_778 (by decide) ?_
        refine lv_iinc (v := y4 + (4 : Int32)) (lv' := [(4, .int (y4 + (4 : Int32))), (6, .int o745.1), (5, .int o733.1), (0, .ref (b)), (1, .ref (ax 0)), (2, .ref (ad 0)), (3, .ref (ob))]) hx hb dL_law_2624 hl (k := 6) rfl rfl (by decide) rfl (fun ls hl => ?_)
        refine lv_goto (tgt := 23) hx hb dL_law_2627 (by decide) ?_
        have hP : va_P g.1 az_cl (((az_ou g ob o733.2.1 :: az_wF g ax an au aw o733.2.2.1 o733.2.2.2.1 o733.2.2.2.2.1 o733.2.2.2.2.2) ++ az_cM g ad (va_up (va_up (va_up Mo 0 o745.2.1) 1 o745.2.2.1) 2 o745.2.2.2))) _ := hP
        have hD : va_D A (((az_ou g ob o733.2.1 :: az_wF g ax an au aw o733.2.2.1 o733.2.2.2.1 o733.2.2.2.2.1 o733.2.2.2.2.2) ++ az_cM g ad (va_up (va_up (va_up Mo 0 o745.2.1) 1 o745.2.2.1) 2 o745.2.2.2))) := hD
        exact ih _ _ _ _ _ _ _ _ _ _ _ _ (by omega) (by omega) h hP hD hS (lv_sub hl [3, 4, 5, 6, 0] rfl)
      · replace h := az_neg c773 h
        refine lv_iconst (v := (0 : Int32)) hx hb dL_law_776 (by decide) ?_
        exact absurd (Option.some.inj h) (by decide)
  · replace h := az_neg c756 h
    refine lv_iconst (v := (0 : Int32)) hx hb dL_law_759 (by decide) ?_
    exact absurd (Option.some.inj h) (by decide)
set_option maxHeartbeats 8000000 in
set_option maxRecDepth 100000 in
theorem LWC10 {p : Program} {e : Env} {s : State} {m : MethodId} {below : List Frame} {meth : Method} {c : Code} (l : Launch) (hst : l.stackTraces = false) {b L : Nat} {xs : Nat → Int32} (hL : L ≤ 2048) (C0 : lw_At p s m meth c b L xs) (g : az_G) (sa : Nat → Nat) (ax an au : Nat → Nat) (aw : Nat → Nat → Nat) (ob : Nat) (ad : Nat → Nat) (hX : va_X b L xs s s.heap) (hbl : b < s.heap.size) (hbA : ¬ (fun q : Nat => s.heap.size ≤ q) b) (hcx : az_cx sa (fun q : Nat => s.heap.size ≤ q) s s.heap) (hA : ∀ q : Nat, s.heap.size ≤ q → (fun q : Nat => s.heap.size ≤ q) q) (hK : va_K g.1 az_cl (az_tys g) s) (hts : ∀ w ∈ wsL_law, w.before #[Value.ref b] s = true) (n : Nat) (ih : ∀ (cn sn : Nat) (V T : az_St) (S : Nat → az_St) (hs : Nat → Int32) (Mo : az_St) (f : Nat → Int64) (y4 : Int32) (H : Heap) (locs : List Loc) (ls : Array Slot), cn + 6 * n ≤ 5000 → sn + 36 * n ≤ 60000 → F_law_L n xs L V T S hs Mo f y4 = some 1 → va_P g.1 az_cl (((az_ou g ob f :: az_wF g ax an au aw V T S hs) ++ az_cM g ad Mo)) H → va_D (fun q : Nat => s.heap.size ≤ q) (((az_ou g ob f :: az_wF g ax an au aw V T S hs) ++ az_cM g ad Mo)) → va_S (fun q : Nat => s.heap.size ≤ q) s.heap H locs → lv_has ls 7 [(0, .ref (b)), (1, .ref (ax 0)), (2, .ref (ad 0)), (3, .ref (ob)), (4, .int y4)] → W p l e room_1 s m #[Value.ref b] below meth c H locs cn sn (lw_Z below #[Value.ref b] s) (F0 m 23 ls [])) : ∀ (cn sn : Nat) (V T : az_St) (S : Nat → az_St) (hs : Nat → Int32) (Mo : az_St) (f : Nat → Int64) (y4 : Int32) (H : Heap) (locs : List Loc) (ls : Array Slot), cn + 6 * (n + 1) ≤ 5000 → sn + 36 * (n + 1) ≤ 60000 → ¬ ((Int32.ofNat L) - (4 : Int32) < y4) → az_in y4 L = true → F_law_C10 (fun V T S hs Mo f y4 => F_law_L n xs L V T S hs Mo f y4) xs L V T S hs Mo f y4 = some 1 → va_P g.1 az_cl (((az_ou g ob f :: az_wF g ax an au aw V T S hs) ++ az_cM g ad Mo)) H → va_D (fun q : Nat => s.heap.size ≤ q) (((az_ou g ob f :: az_wF g ax an au aw V T S hs) ++ az_cM g ad Mo)) → va_S (fun q : Nat => s.heap.size ≤ q) s.heap H locs → lv_has ls 7 [(0, .ref (b)), (1, .ref (ax 0)), (2, .ref (ad 0)), (3, .ref (ob)), (4, .int y4)] → W p l e room_1 s m #[Value.ref b] below meth c H locs cn sn (lw_Z below #[Value.ref b] s) (F0 m 781 ls []) := by
  intro cn sn V T S hs Mo f y4 H locs ls hcn hsn c29 i35 h hP hD hS hl
  obtain ⟨hx, hb, hr, hml, hown, -, -, -, hlocks, -⟩ := id C0
  unfold F_law_C10 at h
  obtain ⟨A, eA⟩ : ∃ A : Nat → Prop, A = (fun q : Nat => s.heap.size ≤ q) := ⟨_, rfl⟩
  rw [← eA] at hbA hcx hA hD hS ih
  refine lv_aload_n hx hb dL_law_781 rfl (lv_at hl 1 rfl) ?_
  refine lv_aload_n hx hb dL_law_782 rfl (lv_at hl 0 rfl) ?_
  refine lv_iload hx hb dL_law_783 (lv_at hl 4 rfl) ?_
  refine lv_iconst (v := (1 : Int32)) hx hb dL_law_785 (by decide) ?_
  refine lv_iadd hx hb dL_law_786 ?_
  obtain ⟨i787, h⟩ := az_ite h
  refine va_sld hx hb hX hbl hbA hS (az_vin i787) dL_law_787 ?_
  refine lv_aload_n hx hb dL_law_788 rfl (lv_at hl 3 rfl) ?_
  obtain ⟨o789, hc789, h⟩ := az_bnd h
  refine az_callLW (wr := az_cM g ad Mo) (As := [.ref (ax 0), .int (xs (y4 + (1 : Int32)).toNatClampNeg), .ref (ob)]) (rest := []) ⟨hx, hb, hml, hown, hts⟩ hl.1 (kL_rollBack l hst g sa ax an au aw ob V T S hs f (xs (y4 + (1 : Int32)).toNatClampNeg) o789 hc789) (vx_cwSW (hh := [(0, 9, 12, 19), (0, 9, 15, 21)]) 3 hts gL_law_L_rollBack rfl rfl rfl (by decide +kernel) ⟨(Nat.le_of_ble_eq_true rfl), (Nat.le_of_ble_eq_true rfl)⟩) rfl hK hcx hP hD hS hA (Nat.le_of_ble_eq_true rfl) dL_law_789 ⟨by show _ ≤ 601024; omega, by show _ ≤ 7293034; omega⟩ rfl (fun H locs hP hD hS => ?_)
  have hP : va_P g.1 az_cl (((az_ou g ob o789.2.1 :: az_wF g ax an au aw o789.2.2.1 o789.2.2.2.1 o789.2.2.2.2.1 o789.2.2.2.2.2) ++ az_cM g ad Mo)) _ := hP
  have hD : va_D A (((az_ou g ob o789.2.1 :: az_wF g ax an au aw o789.2.2.1 o789.2.2.2.1 o789.2.2.2.2.1 o789.2.2.2.2.2) ++ az_cM g ad Mo)) := hD
  refine lv_istore (lv' := [(5, .int o789.1), (0, .ref (b)), (1, .ref (ax 0)), (2, .ref (ad 0)), (3, .ref (ob)), (4, .int y4)]) hx hb dL_law_792 hl (by decide) rfl (fun ls hl => ?_)
  refine lv_aload_n hx hb dL_law_794 rfl (lv_at hl 3 rfl) ?_
  refine lv_aload_n hx hb dL_law_795 rfl (lv_at hl 1 rfl) ?_
  refine lv_iload hx hb dL_law_796 (lv_at hl 5 rfl) ?_
  refine lv_iconst (v := (1 : Int32)) hx hb dL_law_798 (by decide) ?_
  refine lv_iadd hx hb dL_law_799 ?_
  refine va_sld hx hb hX hbl hbA hS (az_vin i787) dL_law_800 ?_
  obtain ⟨o801, hc801, h⟩ := az_bnd h
  refine az_callPi (wr := (az_ou g ob o789.2.1 :: az_wF g ax an au aw o789.2.2.1 o789.2.2.2.1 o789.2.2.2.2.1 o789.2.2.2.2.2)) (w2 := ((az_ou g ob o789.2.1 :: az_wF g ax an au aw o789.2.2.1 o789.2.2.2.1 o789.2.2.2.2.1 o789.2.2.2.2.2) ++ az_cM g ad (va_up (va_up (va_up Mo 0 o801.2.1) 1 o801.2.2.1) 2 o801.2.2.2))) (As := [.int (xs (y4 + (1 : Int32)).toNatClampNeg)]) (rest := []) ⟨hx, hb, hml, hown, hts⟩ hl.1 (kX7_rollBack l g ad Mo (xs (y4 + (1 : Int32)).toNatClampNeg) o801 hc801) (cwV 1 hts gL_law_X7_rollBack rfl rfl rfl (by decide +kernel) ⟨(Nat.le_of_ble_eq_true rfl), (Nat.le_of_ble_eq_true rfl)⟩) rfl hK hP hD hS hA List.perm_append_comm List.perm_append_comm 0 rfl rfl rfl (Nat.le_of_ble_eq_true rfl) dL_law_801 ⟨by show _ ≤ 601024; omega, by show _ ≤ 7293034; omega⟩ rfl (fun H locs hP hD hS => ?_)
  have hP : va_P g.1 az_cl (((az_ou g ob o789.2.1 :: az_wF g ax an au aw o789.2.2.1 o789.2.2.2.1 o789.2.2.2.2.1 o789.2.2.2.2.2) ++ az_cM g ad (va_up (va_up (va_up Mo 0 o801.2.1) 1 o801.2.2.1) 2 o801.2.2.2))) _ := hP
  have hD : va_D A (((az_ou g ob o789.2.1 :: az_wF g ax an au aw o789.2.2.1 o789.2.2.2.1 o789.2.2.2.2.1 o789.2.2.2.2.2) ++ az_cM g ad (va_up (va_up (va_up Mo 0 o801.2.1) 1 o801.2.2.1) 2 o801.2.2.2))) := hD
  refine lv_istore (lv' := [(6, .int o801.1), (5, .int o789.1), (0, .ref (b)), (1, .ref (ax 0)), (2, .ref (ad 0)), (3, .ref (ob)), (4, .int y4)]) hx hb dL_law_804 hl (by decide) rfl (fun ls hl => ?_)
  refine lv_aload_n hx hb dL_law_806 rfl (lv_at hl 4 rfl) ?_
  obtain ⟨o807, hc807, h⟩ := az_bnd h
  refine az_callPi (wr := (az_ou g ob o789.2.1 :: az_wF g ax an au aw o789.2.2.1 o789.2.2.2.1 o789.2.2.2.2.1 o789.2.2.2.2.2)) (w2 := ((az_ou g ob o789.2.1 :: az_wF g ax an au aw o789.2.2.1 o789.2.2.2.1 o789.2.2.2.2.1 o789.2.2.2.2.2) ++ az_cM g ad (va_up (va_up (va_up Mo 0 o801.2.1) 1 o801.2.2.1) 2 o801.2.2.2))) (As := []) (rest := []) ⟨hx, hb, hml, hown, hts⟩ hl.1 (kX7_thrown l g ad (va_up (va_up (va_up Mo 0 o801.2.1) 1 o801.2.2.1) 2 o801.2.2.2)  o807 hc807) (cwV 0 hts gL_law_X7_thrown rfl rfl rfl (by decide +kernel) ⟨(Nat.le_of_ble_eq_true rfl), (Nat.le_of_ble_eq_true rfl)⟩) rfl hK hP hD hS hA List.perm_append_comm List.perm_append_comm 0 rfl rfl rfl (Nat.le_of_ble_eq_true rfl) dL_law_807 ⟨by show _ ≤ 601024; omega, by show _ ≤ 7293034; omega⟩ rfl (fun H locs hP hD hS => ?_)
  have hP : va_P g.1 az_cl (((az_ou g ob o789.2.1 :: az_wF g ax an au aw o789.2.2.1 o789.2.2.2.1 o789.2.2.2.2.1 o789.2.2.2.2.2) ++ az_cM g ad (va_up (va_up (va_up Mo 0 o801.2.1) 1 o801.2.2.1) 2 o801.2.2.2))) _ := hP
  have hD : va_D A (((az_ou g ob o789.2.1 :: az_wF g ax an au aw o789.2.2.1 o789.2.2.2.1 o789.2.2.2.2.1 o789.2.2.2.2.2) ++ az_cM g ad (va_up (va_up (va_up Mo 0 o801.2.1) 1 o801.2.2.1) 2 o801.2.2.2))) := hD
  refine lv_iload hx hb dL_law_810 (lv_at hl 1 rfl) ?_
  refine lv_icmp_eq (tgt := 817) hx hb dL_law_812 (by decide) (fun c812 => ?_) (fun c812 => ?_)
  · replace h := az_pos c812 h
    refine lv_iload hx hb dL_law_817 (lv_at hl 1 rfl) ?_
    refine lv_if_ne (tgt := 834) hx hb dL_law_819 (by decide) (fun c819 => ?_) (fun c819 => ?_)
    · replace h := az_neg c819 h
      refine lv_goto (tgt := 2624) hx hb dL_law_834 (by decide) ?_
      refine lv_iinc (v := y4 + (4 : Int32)) (lv' := [(4, .int (y4 + (4 : Int32))), (6, .int o801.1), (5, .int o789.1), (0, .ref (b)), (1, .ref (ax 0)), (2, .ref (ad 0)), (3, .ref (ob))]) hx hb dL_law_2624 hl (k := 6) rfl rfl (by decide) rfl (fun ls hl => ?_)
      refine lv_goto (tgt := 23) hx hb dL_law_2627 (by decide) ?_
      have hP : va_P g.1 az_cl (((az_ou g ob o789.2.1 :: az_wF g ax an au aw o789.2.2.1 o789.2.2.2.1 o789.2.2.2.2.1 o789.2.2.2.2.2) ++ az_cM g ad (va_up (va_up (va_up Mo 0 o801.2.1) 1 o801.2.2.1) 2 o801.2.2.2))) _ := hP
      have hD : va_D A (((az_ou g ob o789.2.1 :: az_wF g ax an au aw o789.2.2.1 o789.2.2.2.1 o789.2.2.2.2.1 o789.2.2.2.2.2) ++ az_cM g ad (va_up (va_up (va_up Mo 0 o801.2.1) 1 o801.2.2.1) 2 o801.2.2.2))) := hD
      exact ih _ _ _ _ _ _ _ _ _ _ _ _ (by omega) (by omega) h hP hD hS (lv_sub hl [3, 4, 5, 6, 0] rfl)
    · replace h := az_pos c819 h
      refine lv_aload_n hx hb dL_law_822 rfl (lv_at hl 5 rfl) ?_
      refine lv_iconst (v := (0 : Int32)) hx hb dL_law_823 (by decide) ?_
      refine va_lald (D := g.1) (f := o789.2.1) hx hb hK hP 0 2 rfl rfl (az_vin (by decide +kernel)) dL_law_824 ?_
      refine lv_iload hx hb dL_law_825 (lv_at hl 0 rfl) ?_
      refine lv_i2l (v := o801.1.toInt64) hx hb dL_law_827 rfl ?_
      refine W.lcmp hx hb dL_law_828 ?_
      refine lv_if_eq (tgt := 834) hx hb dL_law_829 (by decide) (fun c829 => ?_) (fun c829 => ?_)
      · replace h := az_pos c829 h
        refine lv_goto (tgt := 2624) hx hb dL_law_834 (by decide) ?_
        refine lv_iinc (v := y4 + (4 : Int32)) (lv' := [(4, .int (y4 + (4 : Int32))), (6, .int o801.1), (5, .int o789.1), (0, .ref (b)), (1, .ref (ax 0)), (2, .ref (ad 0)), (3, .ref (ob))]) hx hb dL_law_2624 hl (k := 6) rfl rfl (by decide) rfl (fun ls hl => ?_)
        refine lv_goto (tgt := 23) hx hb dL_law_2627 (by decide) ?_
        have hP : va_P g.1 az_cl (((az_ou g ob o789.2.1 :: az_wF g ax an au aw o789.2.2.1 o789.2.2.2.1 o789.2.2.2.2.1 o789.2.2.2.2.2) ++ az_cM g ad (va_up (va_up (va_up Mo 0 o801.2.1) 1 o801.2.2.1) 2 o801.2.2.2))) _ := hP
        have hD : va_D A (((az_ou g ob o789.2.1 :: az_wF g ax an au aw o789.2.2.1 o789.2.2.2.1 o789.2.2.2.2.1 o789.2.2.2.2.2) ++ az_cM g ad (va_up (va_up (va_up Mo 0 o801.2.1) 1 o801.2.2.1) 2 o801.2.2.2))) := hD
        exact ih _ _ _ _ _ _ _ _ _ _ _ _ (by omega) (by omega) h hP hD hS (lv_sub hl [3, 4, 5, 6, 0] rfl)
      · replace h := az_neg c829 h
        refine lv_iconst (v := (0 : Int32)) hx hb dL_law_832 (by decide) ?_
        exact absurd (Option.some.inj h) (by decide)
  · replace h := az_neg c812 h
    refine lv_iconst (v := (0 : Int32)) hx hb dL_law_815 (by decide) ?_
    exact absurd (Option.some.inj h) (by decide)
set_option maxHeartbeats 8000000 in
set_option maxRecDepth 100000 in
theorem LWC11 {p : Program} {e : Env} {s : State} {m : MethodId} {below : List Frame} {meth : Method} {c : Code} (l : Launch) (hst : l.stackTraces = false) {b L : Nat} {xs : Nat → Int32} (hL : L ≤ 2048) (C0 : lw_At p s m meth c b L xs) (g : az_G) (sa : Nat → Nat) (ax an au : Nat → Nat) (aw : Nat → Nat → Nat) (ob : Nat) (ad : Nat → Nat) (hX : va_X b L xs s s.heap) (hbl : b < s.heap.size) (hbA : ¬ (fun q : Nat => s.heap.size ≤ q) b) (hcx : az_cx sa (fun q : Nat => s.heap.size ≤ q) s s.heap) (hA : ∀ q : Nat, s.heap.size ≤ q → (fun q : Nat => s.heap.size ≤ q) q) (hK : va_K g.1 az_cl (az_tys g) s) (hts : ∀ w ∈ wsL_law, w.before #[Value.ref b] s = true) (n : Nat) (ih : ∀ (cn sn : Nat) (V T : az_St) (S : Nat → az_St) (hs : Nat → Int32) (Mo : az_St) (f : Nat → Int64) (y4 : Int32) (H : Heap) (locs : List Loc) (ls : Array Slot), cn + 6 * n ≤ 5000 → sn + 36 * n ≤ 60000 → F_law_L n xs L V T S hs Mo f y4 = some 1 → va_P g.1 az_cl (((az_ou g ob f :: az_wF g ax an au aw V T S hs) ++ az_cM g ad Mo)) H → va_D (fun q : Nat => s.heap.size ≤ q) (((az_ou g ob f :: az_wF g ax an au aw V T S hs) ++ az_cM g ad Mo)) → va_S (fun q : Nat => s.heap.size ≤ q) s.heap H locs → lv_has ls 7 [(0, .ref (b)), (1, .ref (ax 0)), (2, .ref (ad 0)), (3, .ref (ob)), (4, .int y4)] → W p l e room_1 s m #[Value.ref b] below meth c H locs cn sn (lw_Z below #[Value.ref b] s) (F0 m 23 ls [])) : ∀ (cn sn : Nat) (V T : az_St) (S : Nat → az_St) (hs : Nat → Int32) (Mo : az_St) (f : Nat → Int64) (y4 : Int32) (H : Heap) (locs : List Loc) (ls : Array Slot), cn + 6 * (n + 1) ≤ 5000 → sn + 36 * (n + 1) ≤ 60000 → ¬ ((Int32.ofNat L) - (4 : Int32) < y4) → az_in y4 L = true → F_law_C11 (fun V T S hs Mo f y4 => F_law_L n xs L V T S hs Mo f y4) xs L V T S hs Mo f y4 = some 1 → va_P g.1 az_cl (((az_ou g ob f :: az_wF g ax an au aw V T S hs) ++ az_cM g ad Mo)) H → va_D (fun q : Nat => s.heap.size ≤ q) (((az_ou g ob f :: az_wF g ax an au aw V T S hs) ++ az_cM g ad Mo)) → va_S (fun q : Nat => s.heap.size ≤ q) s.heap H locs → lv_has ls 7 [(0, .ref (b)), (1, .ref (ax 0)), (2, .ref (ad 0)), (3, .ref (ob)), (4, .int y4)] → W p l e room_1 s m #[Value.ref b] below meth c H locs cn sn (lw_Z below #[Value.ref b] s) (F0 m 837 ls []) := by
  intro cn sn V T S hs Mo f y4 H locs ls hcn hsn c29 i35 h hP hD hS hl
  obtain ⟨hx, hb, hr, hml, hown, -, -, -, hlocks, -⟩ := id C0
  unfold F_law_C11 at h
  obtain ⟨A, eA⟩ : ∃ A : Nat → Prop, A = (fun q : Nat => s.heap.size ≤ q) := ⟨_, rfl⟩
  rw [← eA] at hbA hcx hA hD hS ih
  refine lv_aload_n hx hb dL_law_837 rfl (lv_at hl 1 rfl) ?_
  refine lv_aload_n hx hb dL_law_838 rfl (lv_at hl 0 rfl) ?_
  refine lv_iload hx hb dL_law_839 (lv_at hl 4 rfl) ?_
  refine lv_iconst (v := (1 : Int32)) hx hb dL_law_841 (by decide) ?_
  refine lv_iadd hx hb dL_law_842 ?_
  obtain ⟨i843, h⟩ := az_ite h
  refine va_sld hx hb hX hbl hbA hS (az_vin i843) dL_law_843 ?_
  refine lv_aload_n hx hb dL_law_844 rfl (lv_at hl 0 rfl) ?_
  refine lv_iload hx hb dL_law_845 (lv_at hl 4 rfl) ?_
  refine lv_iconst (v := (2 : Int32)) hx hb dL_law_847 (by decide) ?_
  refine lv_iadd hx hb dL_law_848 ?_
  obtain ⟨i849, h⟩ := az_ite h
  refine va_sld hx hb hX hbl hbA hS (az_vin i849) dL_law_849 ?_
  refine lv_aload_n hx hb dL_law_850 rfl (lv_at hl 3 rfl) ?_
  obtain ⟨o851, hc851, h⟩ := az_bnd h
  refine az_callLW (wr := az_cM g ad Mo) (As := [.ref (ax 0), .int (xs (y4 + (1 : Int32)).toNatClampNeg), .int (xs (y4 + (2 : Int32)).toNatClampNeg), .ref (ob)]) (rest := []) ⟨hx, hb, hml, hown, hts⟩ hl.1 (kL_getFrom l hst g sa ax an au aw ob V T S hs f (xs (y4 + (1 : Int32)).toNatClampNeg) (xs (y4 + (2 : Int32)).toNatClampNeg) o851 hc851) (vx_cwSW (hh := [(0, 10, 13, 19), (0, 10, 17, 21), (0, 10, 21, 27)]) 4 hts gL_law_L_getFrom rfl rfl rfl (by decide +kernel) ⟨(Nat.le_of_ble_eq_true rfl), (Nat.le_of_ble_eq_true rfl)⟩) rfl hK hcx hP hD hS hA (Nat.le_of_ble_eq_true rfl) dL_law_851 ⟨by show _ ≤ 601024; omega, by show _ ≤ 7293034; omega⟩ rfl (fun H locs hP hD hS => ?_)
  have hP : va_P g.1 az_cl (((az_ou g ob o851.2.1 :: az_wF g ax an au aw o851.2.2.1 o851.2.2.2.1 o851.2.2.2.2.1 o851.2.2.2.2.2) ++ az_cM g ad Mo)) _ := hP
  have hD : va_D A (((az_ou g ob o851.2.1 :: az_wF g ax an au aw o851.2.2.1 o851.2.2.2.1 o851.2.2.2.2.1 o851.2.2.2.2.2) ++ az_cM g ad Mo)) := hD
  refine lv_istore (lv' := [(5, .int o851.1), (0, .ref (b)), (1, .ref (ax 0)), (2, .ref (ad 0)), (3, .ref (ob)), (4, .int y4)]) hx hb dL_law_854 hl (by decide) rfl (fun ls hl => ?_)
  refine lv_aload_n hx hb dL_law_856 rfl (lv_at hl 3 rfl) ?_
  refine lv_aload_n hx hb dL_law_857 rfl (lv_at hl 1 rfl) ?_
  refine lv_iload hx hb dL_law_858 (lv_at hl 5 rfl) ?_
  refine lv_iconst (v := (1 : Int32)) hx hb dL_law_860 (by decide) ?_
  refine lv_iadd hx hb dL_law_861 ?_
  refine va_sld hx hb hX hbl hbA hS (az_vin i843) dL_law_862 ?_
  refine lv_aload_n hx hb dL_law_863 rfl (lv_at hl 1 rfl) ?_
  refine lv_iload hx hb dL_law_864 (lv_at hl 5 rfl) ?_
  refine lv_iconst (v := (2 : Int32)) hx hb dL_law_866 (by decide) ?_
  refine lv_iadd hx hb dL_law_867 ?_
  refine va_sld hx hb hX hbl hbA hS (az_vin i849) dL_law_868 ?_
  obtain ⟨o869, hc869, h⟩ := az_bnd h
  refine az_callPi (wr := (az_ou g ob o851.2.1 :: az_wF g ax an au aw o851.2.2.1 o851.2.2.2.1 o851.2.2.2.2.1 o851.2.2.2.2.2)) (w2 := ((az_ou g ob o851.2.1 :: az_wF g ax an au aw o851.2.2.1 o851.2.2.2.1 o851.2.2.2.2.1 o851.2.2.2.2.2) ++ az_cM g ad (va_up Mo 2 o869.2))) (As := [.int (xs (y4 + (1 : Int32)).toNatClampNeg), .int (xs (y4 + (2 : Int32)).toNatClampNeg)]) (rest := []) ⟨hx, hb, hml, hown, hts⟩ hl.1 (kX7_getFrom l g ad Mo (xs (y4 + (1 : Int32)).toNatClampNeg) (xs (y4 + (2 : Int32)).toNatClampNeg) o869 hc869) (cwV 2 hts gL_law_X7_getFrom rfl rfl rfl (by decide +kernel) ⟨(Nat.le_of_ble_eq_true rfl), (Nat.le_of_ble_eq_true rfl)⟩) rfl hK hP hD hS hA List.perm_append_comm List.perm_append_comm 0 rfl rfl rfl (Nat.le_of_ble_eq_true rfl) dL_law_869 ⟨by show _ ≤ 601024; omega, by show _ ≤ 7293034; omega⟩ rfl (fun H locs hP hD hS => ?_)
  have hP : va_P g.1 az_cl (((az_ou g ob o851.2.1 :: az_wF g ax an au aw o851.2.2.1 o851.2.2.2.1 o851.2.2.2.2.1 o851.2.2.2.2.2) ++ az_cM g ad (va_up Mo 2 o869.2))) _ := hP
  have hD : va_D A (((az_ou g ob o851.2.1 :: az_wF g ax an au aw o851.2.2.1 o851.2.2.2.1 o851.2.2.2.2.1 o851.2.2.2.2.2) ++ az_cM g ad (va_up Mo 2 o869.2))) := hD
  refine lv_istore (lv' := [(6, .int o869.1), (5, .int o851.1), (0, .ref (b)), (1, .ref (ax 0)), (2, .ref (ad 0)), (3, .ref (ob)), (4, .int y4)]) hx hb dL_law_872 hl (by decide) rfl (fun ls hl => ?_)
  refine lv_aload_n hx hb dL_law_874 rfl (lv_at hl 4 rfl) ?_
  obtain ⟨o875, hc875, h⟩ := az_bnd h
  refine az_callPi (wr := (az_ou g ob o851.2.1 :: az_wF g ax an au aw o851.2.2.1 o851.2.2.2.1 o851.2.2.2.2.1 o851.2.2.2.2.2)) (w2 := ((az_ou g ob o851.2.1 :: az_wF g ax an au aw o851.2.2.1 o851.2.2.2.1 o851.2.2.2.2.1 o851.2.2.2.2.2) ++ az_cM g ad (va_up Mo 2 o869.2))) (As := []) (rest := []) ⟨hx, hb, hml, hown, hts⟩ hl.1 (kX7_thrown l g ad (va_up Mo 2 o869.2)  o875 hc875) (cwV 0 hts gL_law_X7_thrown rfl rfl rfl (by decide +kernel) ⟨(Nat.le_of_ble_eq_true rfl), (Nat.le_of_ble_eq_true rfl)⟩) rfl hK hP hD hS hA List.perm_append_comm List.perm_append_comm 0 rfl rfl rfl (Nat.le_of_ble_eq_true rfl) dL_law_875 ⟨by show _ ≤ 601024; omega, by show _ ≤ 7293034; omega⟩ rfl (fun H locs hP hD hS => ?_)
  have hP : va_P g.1 az_cl (((az_ou g ob o851.2.1 :: az_wF g ax an au aw o851.2.2.1 o851.2.2.2.1 o851.2.2.2.2.1 o851.2.2.2.2.2) ++ az_cM g ad (va_up Mo 2 o869.2))) _ := hP
  have hD : va_D A (((az_ou g ob o851.2.1 :: az_wF g ax an au aw o851.2.2.1 o851.2.2.2.1 o851.2.2.2.2.1 o851.2.2.2.2.2) ++ az_cM g ad (va_up Mo 2 o869.2))) := hD
  refine lv_iload hx hb dL_law_878 (lv_at hl 1 rfl) ?_
  refine lv_icmp_eq (tgt := 885) hx hb dL_law_880 (by decide) (fun c880 => ?_) (fun c880 => ?_)
  · replace h := az_pos c880 h
    refine lv_iload hx hb dL_law_885 (lv_at hl 1 rfl) ?_
    refine lv_if_ne (tgt := 902) hx hb dL_law_887 (by decide) (fun c887 => ?_) (fun c887 => ?_)
    · replace h := az_neg c887 h
      refine lv_goto (tgt := 2624) hx hb dL_law_902 (by decide) ?_
      refine lv_iinc (v := y4 + (4 : Int32)) (lv' := [(4, .int (y4 + (4 : Int32))), (6, .int o869.1), (5, .int o851.1), (0, .ref (b)), (1, .ref (ax 0)), (2, .ref (ad 0)), (3, .ref (ob))]) hx hb dL_law_2624 hl (k := 6) rfl rfl (by decide) rfl (fun ls hl => ?_)
      refine lv_goto (tgt := 23) hx hb dL_law_2627 (by decide) ?_
      have hP : va_P g.1 az_cl (((az_ou g ob o851.2.1 :: az_wF g ax an au aw o851.2.2.1 o851.2.2.2.1 o851.2.2.2.2.1 o851.2.2.2.2.2) ++ az_cM g ad (va_up Mo 2 o869.2))) _ := hP
      have hD : va_D A (((az_ou g ob o851.2.1 :: az_wF g ax an au aw o851.2.2.1 o851.2.2.2.1 o851.2.2.2.2.1 o851.2.2.2.2.2) ++ az_cM g ad (va_up Mo 2 o869.2))) := hD
      exact ih _ _ _ _ _ _ _ _ _ _ _ _ (by omega) (by omega) h hP hD hS (lv_sub hl [3, 4, 5, 6, 0] rfl)
    · replace h := az_pos c887 h
      refine lv_aload_n hx hb dL_law_890 rfl (lv_at hl 5 rfl) ?_
      refine lv_iconst (v := (0 : Int32)) hx hb dL_law_891 (by decide) ?_
      refine va_lald (D := g.1) (f := o851.2.1) hx hb hK hP 0 2 rfl rfl (az_vin (by decide +kernel)) dL_law_892 ?_
      refine lv_iload hx hb dL_law_893 (lv_at hl 0 rfl) ?_
      refine lv_i2l (v := o869.1.toInt64) hx hb dL_law_895 rfl ?_
      refine W.lcmp hx hb dL_law_896 ?_
      refine lv_if_eq (tgt := 902) hx hb dL_law_897 (by decide) (fun c897 => ?_) (fun c897 => ?_)
      · replace h := az_pos c897 h
        refine lv_goto (tgt := 2624) hx hb dL_law_902 (by decide) ?_
        refine lv_iinc (v := y4 + (4 : Int32)) (lv' := [(4, .int (y4 + (4 : Int32))), (6, .int o869.1), (5, .int o851.1), (0, .ref (b)), (1, .ref (ax 0)), (2, .ref (ad 0)), (3, .ref (ob))]) hx hb dL_law_2624 hl (k := 6) rfl rfl (by decide) rfl (fun ls hl => ?_)
        refine lv_goto (tgt := 23) hx hb dL_law_2627 (by decide) ?_
        have hP : va_P g.1 az_cl (((az_ou g ob o851.2.1 :: az_wF g ax an au aw o851.2.2.1 o851.2.2.2.1 o851.2.2.2.2.1 o851.2.2.2.2.2) ++ az_cM g ad (va_up Mo 2 o869.2))) _ := hP
        have hD : va_D A (((az_ou g ob o851.2.1 :: az_wF g ax an au aw o851.2.2.1 o851.2.2.2.1 o851.2.2.2.2.1 o851.2.2.2.2.2) ++ az_cM g ad (va_up Mo 2 o869.2))) := hD
        exact ih _ _ _ _ _ _ _ _ _ _ _ _ (by omega) (by omega) h hP hD hS (lv_sub hl [3, 4, 5, 6, 0] rfl)
      · replace h := az_neg c897 h
        refine lv_iconst (v := (0 : Int32)) hx hb dL_law_900 (by decide) ?_
        exact absurd (Option.some.inj h) (by decide)
  · replace h := az_neg c880 h
    refine lv_iconst (v := (0 : Int32)) hx hb dL_law_883 (by decide) ?_
    exact absurd (Option.some.inj h) (by decide)
set_option maxHeartbeats 8000000 in
set_option maxRecDepth 100000 in
theorem LWC12 {p : Program} {e : Env} {s : State} {m : MethodId} {below : List Frame} {meth : Method} {c : Code} (l : Launch) (hst : l.stackTraces = false) {b L : Nat} {xs : Nat → Int32} (hL : L ≤ 2048) (C0 : lw_At p s m meth c b L xs) (g : az_G) (sa : Nat → Nat) (ax an au : Nat → Nat) (aw : Nat → Nat → Nat) (ob : Nat) (ad : Nat → Nat) (hX : va_X b L xs s s.heap) (hbl : b < s.heap.size) (hbA : ¬ (fun q : Nat => s.heap.size ≤ q) b) (hcx : az_cx sa (fun q : Nat => s.heap.size ≤ q) s s.heap) (hA : ∀ q : Nat, s.heap.size ≤ q → (fun q : Nat => s.heap.size ≤ q) q) (hK : va_K g.1 az_cl (az_tys g) s) (hts : ∀ w ∈ wsL_law, w.before #[Value.ref b] s = true) (n : Nat) (ih : ∀ (cn sn : Nat) (V T : az_St) (S : Nat → az_St) (hs : Nat → Int32) (Mo : az_St) (f : Nat → Int64) (y4 : Int32) (H : Heap) (locs : List Loc) (ls : Array Slot), cn + 6 * n ≤ 5000 → sn + 36 * n ≤ 60000 → F_law_L n xs L V T S hs Mo f y4 = some 1 → va_P g.1 az_cl (((az_ou g ob f :: az_wF g ax an au aw V T S hs) ++ az_cM g ad Mo)) H → va_D (fun q : Nat => s.heap.size ≤ q) (((az_ou g ob f :: az_wF g ax an au aw V T S hs) ++ az_cM g ad Mo)) → va_S (fun q : Nat => s.heap.size ≤ q) s.heap H locs → lv_has ls 7 [(0, .ref (b)), (1, .ref (ax 0)), (2, .ref (ad 0)), (3, .ref (ob)), (4, .int y4)] → W p l e room_1 s m #[Value.ref b] below meth c H locs cn sn (lw_Z below #[Value.ref b] s) (F0 m 23 ls [])) : ∀ (cn sn : Nat) (V T : az_St) (S : Nat → az_St) (hs : Nat → Int32) (Mo : az_St) (f : Nat → Int64) (y4 : Int32) (H : Heap) (locs : List Loc) (ls : Array Slot), cn + 6 * (n + 1) ≤ 5000 → sn + 36 * (n + 1) ≤ 60000 → ¬ ((Int32.ofNat L) - (4 : Int32) < y4) → az_in y4 L = true → F_law_C12 (fun V T S hs Mo f y4 => F_law_L n xs L V T S hs Mo f y4) xs L V T S hs Mo f y4 = some 1 → va_P g.1 az_cl (((az_ou g ob f :: az_wF g ax an au aw V T S hs) ++ az_cM g ad Mo)) H → va_D (fun q : Nat => s.heap.size ≤ q) (((az_ou g ob f :: az_wF g ax an au aw V T S hs) ++ az_cM g ad Mo)) → va_S (fun q : Nat => s.heap.size ≤ q) s.heap H locs → lv_has ls 7 [(0, .ref (b)), (1, .ref (ax 0)), (2, .ref (ad 0)), (3, .ref (ob)), (4, .int y4)] → W p l e room_1 s m #[Value.ref b] below meth c H locs cn sn (lw_Z below #[Value.ref b] s) (F0 m 905 ls []) := by
  intro cn sn V T S hs Mo f y4 H locs ls hcn hsn c29 i35 h hP hD hS hl
  obtain ⟨hx, hb, hr, hml, hown, -, -, -, hlocks, -⟩ := id C0
  unfold F_law_C12 at h
  obtain ⟨A, eA⟩ : ∃ A : Nat → Prop, A = (fun q : Nat => s.heap.size ≤ q) := ⟨_, rfl⟩
  rw [← eA] at hbA hcx hA hD hS ih
  refine lv_aload_n hx hb dL_law_905 rfl (lv_at hl 1 rfl) ?_
  refine lv_aload_n hx hb dL_law_906 rfl (lv_at hl 0 rfl) ?_
  refine lv_iload hx hb dL_law_907 (lv_at hl 4 rfl) ?_
  refine lv_iconst (v := (1 : Int32)) hx hb dL_law_909 (by decide) ?_
  refine lv_iadd hx hb dL_law_910 ?_
  obtain ⟨i911, h⟩ := az_ite h
  refine va_sld hx hb hX hbl hbA hS (az_vin i911) dL_law_911 ?_
  refine lv_aload_n hx hb dL_law_912 rfl (lv_at hl 3 rfl) ?_
  obtain ⟨o913, hc913, h⟩ := az_bnd h
  refine az_callLW (wr := az_cM g ad Mo) (As := [.ref (ax 0), .int (xs (y4 + (1 : Int32)).toNatClampNeg), .ref (ob)]) (rest := []) ⟨hx, hb, hml, hown, hts⟩ hl.1 (kL_changedSince l hst g sa ax an au aw ob V T S hs f (xs (y4 + (1 : Int32)).toNatClampNeg) o913 hc913) (vx_cwSW (hh := [(0, 9, 12, 19), (0, 9, 15, 21)]) 3 hts gL_law_L_changedSince rfl rfl rfl (by decide +kernel) ⟨(Nat.le_of_ble_eq_true rfl), (Nat.le_of_ble_eq_true rfl)⟩) rfl hK hcx hP hD hS hA (Nat.le_of_ble_eq_true rfl) dL_law_913 ⟨by show _ ≤ 601024; omega, by show _ ≤ 7293034; omega⟩ rfl (fun H locs hP hD hS => ?_)
  have hP : va_P g.1 az_cl (((az_ou g ob o913.2.1 :: az_wF g ax an au aw o913.2.2.1 o913.2.2.2.1 o913.2.2.2.2.1 o913.2.2.2.2.2) ++ az_cM g ad Mo)) _ := hP
  have hD : va_D A (((az_ou g ob o913.2.1 :: az_wF g ax an au aw o913.2.2.1 o913.2.2.2.1 o913.2.2.2.2.1 o913.2.2.2.2.2) ++ az_cM g ad Mo)) := hD
  refine lv_istore (lv' := [(5, .int o913.1), (0, .ref (b)), (1, .ref (ax 0)), (2, .ref (ad 0)), (3, .ref (ob)), (4, .int y4)]) hx hb dL_law_916 hl (by decide) rfl (fun ls hl => ?_)
  refine lv_aload_n hx hb dL_law_918 rfl (lv_at hl 3 rfl) ?_
  refine lv_aload_n hx hb dL_law_919 rfl (lv_at hl 1 rfl) ?_
  refine lv_iload hx hb dL_law_920 (lv_at hl 5 rfl) ?_
  refine lv_iconst (v := (1 : Int32)) hx hb dL_law_922 (by decide) ?_
  refine lv_iadd hx hb dL_law_923 ?_
  refine va_sld hx hb hX hbl hbA hS (az_vin i911) dL_law_924 ?_
  obtain ⟨o925, hc925, h⟩ := az_bnd h
  refine az_callPi (wr := (az_ou g ob o913.2.1 :: az_wF g ax an au aw o913.2.2.1 o913.2.2.2.1 o913.2.2.2.2.1 o913.2.2.2.2.2)) (w2 := ((az_ou g ob o913.2.1 :: az_wF g ax an au aw o913.2.2.1 o913.2.2.2.1 o913.2.2.2.2.1 o913.2.2.2.2.2) ++ az_cM g ad (va_up Mo 2 o925.2))) (As := [.int (xs (y4 + (1 : Int32)).toNatClampNeg)]) (rest := []) ⟨hx, hb, hml, hown, hts⟩ hl.1 (kX7_changedSince l g ad Mo (xs (y4 + (1 : Int32)).toNatClampNeg) o925 hc925) (cwV 1 hts gL_law_X7_changedSince rfl rfl rfl (by decide +kernel) ⟨(Nat.le_of_ble_eq_true rfl), (Nat.le_of_ble_eq_true rfl)⟩) rfl hK hP hD hS hA List.perm_append_comm List.perm_append_comm 0 rfl rfl rfl (Nat.le_of_ble_eq_true rfl) dL_law_925 ⟨by show _ ≤ 601024; omega, by show _ ≤ 7293034; omega⟩ rfl (fun H locs hP hD hS => ?_)
  have hP : va_P g.1 az_cl (((az_ou g ob o913.2.1 :: az_wF g ax an au aw o913.2.2.1 o913.2.2.2.1 o913.2.2.2.2.1 o913.2.2.2.2.2) ++ az_cM g ad (va_up Mo 2 o925.2))) _ := hP
  have hD : va_D A (((az_ou g ob o913.2.1 :: az_wF g ax an au aw o913.2.2.1 o913.2.2.2.1 o913.2.2.2.2.1 o913.2.2.2.2.2) ++ az_cM g ad (va_up Mo 2 o925.2))) := hD
  refine lv_istore (lv' := [(6, .int o925.1), (5, .int o913.1), (0, .ref (b)), (1, .ref (ax 0)), (2, .ref (ad 0)), (3, .ref (ob)), (4, .int y4)]) hx hb dL_law_928 hl (by decide) rfl (fun ls hl => ?_)
  refine lv_aload_n hx hb dL_law_930 rfl (lv_at hl 4 rfl) ?_
  obtain ⟨o931, hc931, h⟩ := az_bnd h
  refine az_callPi (wr := (az_ou g ob o913.2.1 :: az_wF g ax an au aw o913.2.2.1 o913.2.2.2.1 o913.2.2.2.2.1 o913.2.2.2.2.2)) (w2 := ((az_ou g ob o913.2.1 :: az_wF g ax an au aw o913.2.2.1 o913.2.2.2.1 o913.2.2.2.2.1 o913.2.2.2.2.2) ++ az_cM g ad (va_up Mo 2 o925.2))) (As := []) (rest := []) ⟨hx, hb, hml, hown, hts⟩ hl.1 (kX7_thrown l g ad (va_up Mo 2 o925.2)  o931 hc931) (cwV 0 hts gL_law_X7_thrown rfl rfl rfl (by decide +kernel) ⟨(Nat.le_of_ble_eq_true rfl), (Nat.le_of_ble_eq_true rfl)⟩) rfl hK hP hD hS hA List.perm_append_comm List.perm_append_comm 0 rfl rfl rfl (Nat.le_of_ble_eq_true rfl) dL_law_931 ⟨by show _ ≤ 601024; omega, by show _ ≤ 7293034; omega⟩ rfl (fun H locs hP hD hS => ?_)
  have hP : va_P g.1 az_cl (((az_ou g ob o913.2.1 :: az_wF g ax an au aw o913.2.2.1 o913.2.2.2.1 o913.2.2.2.2.1 o913.2.2.2.2.2) ++ az_cM g ad (va_up Mo 2 o925.2))) _ := hP
  have hD : va_D A (((az_ou g ob o913.2.1 :: az_wF g ax an au aw o913.2.2.1 o913.2.2.2.1 o913.2.2.2.2.1 o913.2.2.2.2.2) ++ az_cM g ad (va_up Mo 2 o925.2))) := hD
  refine lv_iload hx hb dL_law_934 (lv_at hl 1 rfl) ?_
  refine lv_icmp_eq (tgt := 941) hx hb dL_law_936 (by decide) (fun c936 => ?_) (fun c936 => ?_)
  · replace h := az_pos c936 h
    refine lv_iload hx hb dL_law_941 (lv_at hl 1 rfl) ?_
    refine lv_if_ne (tgt := 958) hx hb dL_law_943 (by decide) (fun c943 => ?_) (fun c943 => ?_)
    · replace h := az_neg c943 h
      refine lv_goto (tgt := 2624) hx hb dL_law_958 (by decide) ?_
      refine lv_iinc (v := y4 + (4 : Int32)) (lv' := [(4, .int (y4 + (4 : Int32))), (6, .int o925.1), (5, .int o913.1), (0, .ref (b)), (1, .ref (ax 0)), (2, .ref (ad 0)), (3, .ref (ob))]) hx hb dL_law_2624 hl (k := 6) rfl rfl (by decide) rfl (fun ls hl => ?_)
      refine lv_goto (tgt := 23) hx hb dL_law_2627 (by decide) ?_
      have hP : va_P g.1 az_cl (((az_ou g ob o913.2.1 :: az_wF g ax an au aw o913.2.2.1 o913.2.2.2.1 o913.2.2.2.2.1 o913.2.2.2.2.2) ++ az_cM g ad (va_up Mo 2 o925.2))) _ := hP
      have hD : va_D A (((az_ou g ob o913.2.1 :: az_wF g ax an au aw o913.2.2.1 o913.2.2.2.1 o913.2.2.2.2.1 o913.2.2.2.2.2) ++ az_cM g ad (va_up Mo 2 o925.2))) := hD
      exact ih _ _ _ _ _ _ _ _ _ _ _ _ (by omega) (by omega) h hP hD hS (lv_sub hl [3, 4, 5, 6, 0] rfl)
    · replace h := az_pos c943 h
      refine lv_aload_n hx hb dL_law_946 rfl (lv_at hl 5 rfl) ?_
      refine lv_iconst (v := (0 : Int32)) hx hb dL_law_947 (by decide) ?_
      refine va_lald (D := g.1) (f := o913.2.1) hx hb hK hP 0 2 rfl rfl (az_vin (by decide +kernel)) dL_law_948 ?_
      refine lv_iload hx hb dL_law_949 (lv_at hl 0 rfl) ?_
      refine lv_i2l (v := o925.1.toInt64) hx hb dL_law_951 rfl ?_
      refine W.lcmp hx hb dL_law_952 ?_
      refine lv_if_eq (tgt := 958) hx hb dL_law_953 (by decide) (fun c953 => ?_) (fun c953 => ?_)
      · replace h := az_pos c953 h
        refine lv_goto (tgt := 2624) hx hb dL_law_958 (by decide) ?_
        refine lv_iinc (v := y4 + (4 : Int32)) (lv' := [(4, .int (y4 + (4 : Int32))), (6, .int o925.1), (5, .int o913.1), (0, .ref (b)), (1, .ref (ax 0)), (2, .ref (ad 0)), (3, .ref (ob))]) hx hb dL_law_2624 hl (k := 6) rfl rfl (by decide) rfl (fun ls hl => ?_)
        refine lv_goto (tgt := 23) hx hb dL_law_2627 (by decide) ?_
        have hP : va_P g.1 az_cl (((az_ou g ob o913.2.1 :: az_wF g ax an au aw o913.2.2.1 o913.2.2.2.1 o913.2.2.2.2.1 o913.2.2.2.2.2) ++ az_cM g ad (va_up Mo 2 o925.2))) _ := hP
        have hD : va_D A (((az_ou g ob o913.2.1 :: az_wF g ax an au aw o913.2.2.1 o913.2.2.2.1 o913.2.2.2.2.1 o913.2.2.2.2.2) ++ az_cM g ad (va_up Mo 2 o925.2))) := hD
        exact ih _ _ _ _ _ _ _ _ _ _ _ _ (by omega) (by omega) h hP hD hS (lv_sub hl [3, 4, 5, 6, 0] rfl)
      · replace h := az_neg c953 h
        refine lv_iconst (v := (0 : Int32)) hx hb dL_law_956 (by decide) ?_
        exact absurd (Option.some.inj h) (by decide)
  · replace h := az_neg c936 h
    refine lv_iconst (v := (0 : Int32)) hx hb dL_law_939 (by decide) ?_
    exact absurd (Option.some.inj h) (by decide)
set_option maxHeartbeats 8000000 in
set_option maxRecDepth 100000 in
theorem LWC13 {p : Program} {e : Env} {s : State} {m : MethodId} {below : List Frame} {meth : Method} {c : Code} (l : Launch) (hst : l.stackTraces = false) {b L : Nat} {xs : Nat → Int32} (hL : L ≤ 2048) (C0 : lw_At p s m meth c b L xs) (g : az_G) (sa : Nat → Nat) (ax an au : Nat → Nat) (aw : Nat → Nat → Nat) (ob : Nat) (ad : Nat → Nat) (hX : va_X b L xs s s.heap) (hbl : b < s.heap.size) (hbA : ¬ (fun q : Nat => s.heap.size ≤ q) b) (hcx : az_cx sa (fun q : Nat => s.heap.size ≤ q) s s.heap) (hA : ∀ q : Nat, s.heap.size ≤ q → (fun q : Nat => s.heap.size ≤ q) q) (hK : va_K g.1 az_cl (az_tys g) s) (hts : ∀ w ∈ wsL_law, w.before #[Value.ref b] s = true) (n : Nat) (ih : ∀ (cn sn : Nat) (V T : az_St) (S : Nat → az_St) (hs : Nat → Int32) (Mo : az_St) (f : Nat → Int64) (y4 : Int32) (H : Heap) (locs : List Loc) (ls : Array Slot), cn + 6 * n ≤ 5000 → sn + 36 * n ≤ 60000 → F_law_L n xs L V T S hs Mo f y4 = some 1 → va_P g.1 az_cl (((az_ou g ob f :: az_wF g ax an au aw V T S hs) ++ az_cM g ad Mo)) H → va_D (fun q : Nat => s.heap.size ≤ q) (((az_ou g ob f :: az_wF g ax an au aw V T S hs) ++ az_cM g ad Mo)) → va_S (fun q : Nat => s.heap.size ≤ q) s.heap H locs → lv_has ls 7 [(0, .ref (b)), (1, .ref (ax 0)), (2, .ref (ad 0)), (3, .ref (ob)), (4, .int y4)] → W p l e room_1 s m #[Value.ref b] below meth c H locs cn sn (lw_Z below #[Value.ref b] s) (F0 m 23 ls [])) : ∀ (cn sn : Nat) (V T : az_St) (S : Nat → az_St) (hs : Nat → Int32) (Mo : az_St) (f : Nat → Int64) (y4 : Int32) (H : Heap) (locs : List Loc) (ls : Array Slot), cn + 6 * (n + 1) ≤ 5000 → sn + 36 * (n + 1) ≤ 60000 → ¬ ((Int32.ofNat L) - (4 : Int32) < y4) → az_in y4 L = true → F_law_C13 (fun V T S hs Mo f y4 => F_law_L n xs L V T S hs Mo f y4) xs L V T S hs Mo f y4 = some 1 → va_P g.1 az_cl (((az_ou g ob f :: az_wF g ax an au aw V T S hs) ++ az_cM g ad Mo)) H → va_D (fun q : Nat => s.heap.size ≤ q) (((az_ou g ob f :: az_wF g ax an au aw V T S hs) ++ az_cM g ad Mo)) → va_S (fun q : Nat => s.heap.size ≤ q) s.heap H locs → lv_has ls 7 [(0, .ref (b)), (1, .ref (ax 0)), (2, .ref (ad 0)), (3, .ref (ob)), (4, .int y4)] → W p l e room_1 s m #[Value.ref b] below meth c H locs cn sn (lw_Z below #[Value.ref b] s) (F0 m 961 ls []) := by
  intro cn sn V T S hs Mo f y4 H locs ls hcn hsn c29 i35 h hP hD hS hl
  obtain ⟨hx, hb, hr, hml, hown, -, -, -, hlocks, -⟩ := id C0
  unfold F_law_C13 at h
  obtain ⟨A, eA⟩ : ∃ A : Nat → Prop, A = (fun q : Nat => s.heap.size ≤ q) := ⟨_, rfl⟩
  rw [← eA] at hbA hcx hA hD hS ih
  refine lv_aload_n hx hb dL_law_961 rfl (lv_at hl 1 rfl) ?_
  refine lv_aload_n hx hb dL_law_962 rfl (lv_at hl 0 rfl) ?_
  refine lv_iload hx hb dL_law_963 (lv_at hl 4 rfl) ?_
  refine lv_iconst (v := (1 : Int32)) hx hb dL_law_965 (by decide) ?_
  refine lv_iadd hx hb dL_law_966 ?_
  obtain ⟨i967, h⟩ := az_ite h
  refine va_sld hx hb hX hbl hbA hS (az_vin i967) dL_law_967 ?_
  refine lv_aload_n hx hb dL_law_968 rfl (lv_at hl 0 rfl) ?_
  refine lv_iload hx hb dL_law_969 (lv_at hl 4 rfl) ?_
  refine lv_iconst (v := (2 : Int32)) hx hb dL_law_971 (by decide) ?_
  refine lv_iadd hx hb dL_law_972 ?_
  obtain ⟨i973, h⟩ := az_ite h
  refine va_sld hx hb hX hbl hbA hS (az_vin i973) dL_law_973 ?_
  refine lv_aload_n hx hb dL_law_974 rfl (lv_at hl 3 rfl) ?_
  obtain ⟨o975, hc975, h⟩ := az_bnd h
  refine az_callLW (wr := az_cM g ad Mo) (As := [.ref (ax 0), .int (xs (y4 + (1 : Int32)).toNatClampNeg), .int (xs (y4 + (2 : Int32)).toNatClampNeg), .ref (ob)]) (rest := []) ⟨hx, hb, hml, hown, hts⟩ hl.1 (kL_difference l hst g sa ax an au aw ob V T S hs f (xs (y4 + (1 : Int32)).toNatClampNeg) (xs (y4 + (2 : Int32)).toNatClampNeg) o975 hc975) (vx_cwSW (hh := [(0, 10, 13, 19), (0, 10, 17, 21)]) 4 hts gL_law_L_difference rfl rfl rfl (by decide +kernel) ⟨(Nat.le_of_ble_eq_true rfl), (Nat.le_of_ble_eq_true rfl)⟩) rfl hK hcx hP hD hS hA (Nat.le_of_ble_eq_true rfl) dL_law_975 ⟨by show _ ≤ 601024; omega, by show _ ≤ 7293034; omega⟩ rfl (fun H locs hP hD hS => ?_)
  have hP : va_P g.1 az_cl (((az_ou g ob o975.2.1 :: az_wF g ax an au aw o975.2.2.1 o975.2.2.2.1 o975.2.2.2.2.1 o975.2.2.2.2.2) ++ az_cM g ad Mo)) _ := hP
  have hD : va_D A (((az_ou g ob o975.2.1 :: az_wF g ax an au aw o975.2.2.1 o975.2.2.2.1 o975.2.2.2.2.1 o975.2.2.2.2.2) ++ az_cM g ad Mo)) := hD
  refine lv_istore (lv' := [(5, .int o975.1), (0, .ref (b)), (1, .ref (ax 0)), (2, .ref (ad 0)), (3, .ref (ob)), (4, .int y4)]) hx hb dL_law_978 hl (by decide) rfl (fun ls hl => ?_)
  refine lv_aload_n hx hb dL_law_980 rfl (lv_at hl 3 rfl) ?_
  refine lv_aload_n hx hb dL_law_981 rfl (lv_at hl 1 rfl) ?_
  refine lv_iload hx hb dL_law_982 (lv_at hl 5 rfl) ?_
  refine lv_iconst (v := (1 : Int32)) hx hb dL_law_984 (by decide) ?_
  refine lv_iadd hx hb dL_law_985 ?_
  refine va_sld hx hb hX hbl hbA hS (az_vin i967) dL_law_986 ?_
  refine lv_aload_n hx hb dL_law_987 rfl (lv_at hl 1 rfl) ?_
  refine lv_iload hx hb dL_law_988 (lv_at hl 5 rfl) ?_
  refine lv_iconst (v := (2 : Int32)) hx hb dL_law_990 (by decide) ?_
  refine lv_iadd hx hb dL_law_991 ?_
  refine va_sld hx hb hX hbl hbA hS (az_vin i973) dL_law_992 ?_
  obtain ⟨o993, hc993, h⟩ := az_bnd h
  refine az_callPi (wr := (az_ou g ob o975.2.1 :: az_wF g ax an au aw o975.2.2.1 o975.2.2.2.1 o975.2.2.2.2.1 o975.2.2.2.2.2)) (w2 := ((az_ou g ob o975.2.1 :: az_wF g ax an au aw o975.2.2.1 o975.2.2.2.1 o975.2.2.2.2.1 o975.2.2.2.2.2) ++ az_cM g ad (va_up Mo 2 o993.2))) (As := [.int (xs (y4 + (1 : Int32)).toNatClampNeg), .int (xs (y4 + (2 : Int32)).toNatClampNeg)]) (rest := []) ⟨hx, hb, hml, hown, hts⟩ hl.1 (kX7_difference l g ad Mo (xs (y4 + (1 : Int32)).toNatClampNeg) (xs (y4 + (2 : Int32)).toNatClampNeg) o993 hc993) (cwV 2 hts gL_law_X7_difference rfl rfl rfl (by decide +kernel) ⟨(Nat.le_of_ble_eq_true rfl), (Nat.le_of_ble_eq_true rfl)⟩) rfl hK hP hD hS hA List.perm_append_comm List.perm_append_comm 0 rfl rfl rfl (Nat.le_of_ble_eq_true rfl) dL_law_993 ⟨by show _ ≤ 601024; omega, by show _ ≤ 7293034; omega⟩ rfl (fun H locs hP hD hS => ?_)
  have hP : va_P g.1 az_cl (((az_ou g ob o975.2.1 :: az_wF g ax an au aw o975.2.2.1 o975.2.2.2.1 o975.2.2.2.2.1 o975.2.2.2.2.2) ++ az_cM g ad (va_up Mo 2 o993.2))) _ := hP
  have hD : va_D A (((az_ou g ob o975.2.1 :: az_wF g ax an au aw o975.2.2.1 o975.2.2.2.1 o975.2.2.2.2.1 o975.2.2.2.2.2) ++ az_cM g ad (va_up Mo 2 o993.2))) := hD
  refine lv_istore (lv' := [(6, .int o993.1), (5, .int o975.1), (0, .ref (b)), (1, .ref (ax 0)), (2, .ref (ad 0)), (3, .ref (ob)), (4, .int y4)]) hx hb dL_law_996 hl (by decide) rfl (fun ls hl => ?_)
  refine lv_aload_n hx hb dL_law_998 rfl (lv_at hl 4 rfl) ?_
  obtain ⟨o999, hc999, h⟩ := az_bnd h
  refine az_callPi (wr := (az_ou g ob o975.2.1 :: az_wF g ax an au aw o975.2.2.1 o975.2.2.2.1 o975.2.2.2.2.1 o975.2.2.2.2.2)) (w2 := ((az_ou g ob o975.2.1 :: az_wF g ax an au aw o975.2.2.1 o975.2.2.2.1 o975.2.2.2.2.1 o975.2.2.2.2.2) ++ az_cM g ad (va_up Mo 2 o993.2))) (As := []) (rest := []) ⟨hx, hb, hml, hown, hts⟩ hl.1 (kX7_thrown l g ad (va_up Mo 2 o993.2)  o999 hc999) (cwV 0 hts gL_law_X7_thrown rfl rfl rfl (by decide +kernel) ⟨(Nat.le_of_ble_eq_true rfl), (Nat.le_of_ble_eq_true rfl)⟩) rfl hK hP hD hS hA List.perm_append_comm List.perm_append_comm 0 rfl rfl rfl (Nat.le_of_ble_eq_true rfl) dL_law_999 ⟨by show _ ≤ 601024; omega, by show _ ≤ 7293034; omega⟩ rfl (fun H locs hP hD hS => ?_)
  have hP : va_P g.1 az_cl (((az_ou g ob o975.2.1 :: az_wF g ax an au aw o975.2.2.1 o975.2.2.2.1 o975.2.2.2.2.1 o975.2.2.2.2.2) ++ az_cM g ad (va_up Mo 2 o993.2))) _ := hP
  have hD : va_D A (((az_ou g ob o975.2.1 :: az_wF g ax an au aw o975.2.2.1 o975.2.2.2.1 o975.2.2.2.2.1 o975.2.2.2.2.2) ++ az_cM g ad (va_up Mo 2 o993.2))) := hD
  refine lv_iload hx hb dL_law_1002 (lv_at hl 1 rfl) ?_
  refine lv_icmp_eq (tgt := 1009) hx hb dL_law_1004 (by decide) (fun c1004 => ?_) (fun c1004 => ?_)
  · replace h := az_pos c1004 h
    refine lv_iload hx hb dL_law_1009 (lv_at hl 1 rfl) ?_
    refine lv_if_ne (tgt := 1026) hx hb dL_law_1011 (by decide) (fun c1011 => ?_) (fun c1011 => ?_)
    · replace h := az_neg c1011 h
      refine lv_goto (tgt := 2624) hx hb dL_law_1026 (by decide) ?_
      refine lv_iinc (v := y4 + (4 : Int32)) (lv' := [(4, .int (y4 + (4 : Int32))), (6, .int o993.1), (5, .int o975.1), (0, .ref (b)), (1, .ref (ax 0)), (2, .ref (ad 0)), (3, .ref (ob))]) hx hb dL_law_2624 hl (k := 6) rfl rfl (by decide) rfl (fun ls hl => ?_)
      refine lv_goto (tgt := 23) hx hb dL_law_2627 (by decide) ?_
      have hP : va_P g.1 az_cl (((az_ou g ob o975.2.1 :: az_wF g ax an au aw o975.2.2.1 o975.2.2.2.1 o975.2.2.2.2.1 o975.2.2.2.2.2) ++ az_cM g ad (va_up Mo 2 o993.2))) _ := hP
      have hD : va_D A (((az_ou g ob o975.2.1 :: az_wF g ax an au aw o975.2.2.1 o975.2.2.2.1 o975.2.2.2.2.1 o975.2.2.2.2.2) ++ az_cM g ad (va_up Mo 2 o993.2))) := hD
      exact ih _ _ _ _ _ _ _ _ _ _ _ _ (by omega) (by omega) h hP hD hS (lv_sub hl [3, 4, 5, 6, 0] rfl)
    · replace h := az_pos c1011 h
      refine lv_aload_n hx hb dL_law_1014 rfl (lv_at hl 5 rfl) ?_
      refine lv_iconst (v := (0 : Int32)) hx hb dL_law_1015 (by decide) ?_
      refine va_lald (D := g.1) (f := o975.2.1) hx hb hK hP 0 2 rfl rfl (az_vin (by decide +kernel)) dL_law_1016 ?_
      refine lv_iload hx hb dL_law_1017 (lv_at hl 0 rfl) ?_
      refine lv_i2l (v := o993.1.toInt64) hx hb dL_law_1019 rfl ?_
      refine W.lcmp hx hb dL_law_1020 ?_
      refine lv_if_eq (tgt := 1026) hx hb dL_law_1021 (by decide) (fun c1021 => ?_) (fun c1021 => ?_)
      · replace h := az_pos c1021 h
        refine lv_goto (tgt := 2624) hx hb dL_law_1026 (by decide) ?_
        refine lv_iinc (v := y4 + (4 : Int32)) (lv' := [(4, .int (y4 + (4 : Int32))), (6, .int o993.1), (5, .int o975.1), (0, .ref (b)), (1, .ref (ax 0)), (2, .ref (ad 0)), (3, .ref (ob))]) hx hb dL_law_2624 hl (k := 6) rfl rfl (by decide) rfl (fun ls hl => ?_)
        refine lv_goto (tgt := 23) hx hb dL_law_2627 (by decide) ?_
        have hP : va_P g.1 az_cl (((az_ou g ob o975.2.1 :: az_wF g ax an au aw o975.2.2.1 o975.2.2.2.1 o975.2.2.2.2.1 o975.2.2.2.2.2) ++ az_cM g ad (va_up Mo 2 o993.2))) _ := hP
        have hD : va_D A (((az_ou g ob o975.2.1 :: az_wF g ax an au aw o975.2.2.1 o975.2.2.2.1 o975.2.2.2.2.1 o975.2.2.2.2.2) ++ az_cM g ad (va_up Mo 2 o993.2))) := hD
        exact ih _ _ _ _ _ _ _ _ _ _ _ _ (by omega) (by omega) h hP hD hS (lv_sub hl [3, 4, 5, 6, 0] rfl)
      · replace h := az_neg c1021 h
        refine lv_iconst (v := (0 : Int32)) hx hb dL_law_1024 (by decide) ?_
        exact absurd (Option.some.inj h) (by decide)
  · replace h := az_neg c1004 h
    refine lv_iconst (v := (0 : Int32)) hx hb dL_law_1007 (by decide) ?_
    exact absurd (Option.some.inj h) (by decide)
set_option maxHeartbeats 8000000 in
set_option maxRecDepth 100000 in
theorem LWC14 {p : Program} {e : Env} {s : State} {m : MethodId} {below : List Frame} {meth : Method} {c : Code} (l : Launch) (hst : l.stackTraces = false) {b L : Nat} {xs : Nat → Int32} (hL : L ≤ 2048) (C0 : lw_At p s m meth c b L xs) (g : az_G) (sa : Nat → Nat) (ax an au : Nat → Nat) (aw : Nat → Nat → Nat) (ob : Nat) (ad : Nat → Nat) (hX : va_X b L xs s s.heap) (hbl : b < s.heap.size) (hbA : ¬ (fun q : Nat => s.heap.size ≤ q) b) (hcx : az_cx sa (fun q : Nat => s.heap.size ≤ q) s s.heap) (hA : ∀ q : Nat, s.heap.size ≤ q → (fun q : Nat => s.heap.size ≤ q) q) (hK : va_K g.1 az_cl (az_tys g) s) (hts : ∀ w ∈ wsL_law, w.before #[Value.ref b] s = true) (n : Nat) (ih : ∀ (cn sn : Nat) (V T : az_St) (S : Nat → az_St) (hs : Nat → Int32) (Mo : az_St) (f : Nat → Int64) (y4 : Int32) (H : Heap) (locs : List Loc) (ls : Array Slot), cn + 6 * n ≤ 5000 → sn + 36 * n ≤ 60000 → F_law_L n xs L V T S hs Mo f y4 = some 1 → va_P g.1 az_cl (((az_ou g ob f :: az_wF g ax an au aw V T S hs) ++ az_cM g ad Mo)) H → va_D (fun q : Nat => s.heap.size ≤ q) (((az_ou g ob f :: az_wF g ax an au aw V T S hs) ++ az_cM g ad Mo)) → va_S (fun q : Nat => s.heap.size ≤ q) s.heap H locs → lv_has ls 7 [(0, .ref (b)), (1, .ref (ax 0)), (2, .ref (ad 0)), (3, .ref (ob)), (4, .int y4)] → W p l e room_1 s m #[Value.ref b] below meth c H locs cn sn (lw_Z below #[Value.ref b] s) (F0 m 23 ls [])) : ∀ (cn sn : Nat) (V T : az_St) (S : Nat → az_St) (hs : Nat → Int32) (Mo : az_St) (f : Nat → Int64) (y4 : Int32) (H : Heap) (locs : List Loc) (ls : Array Slot), cn + 6 * (n + 1) ≤ 5000 → sn + 36 * (n + 1) ≤ 60000 → ¬ ((Int32.ofNat L) - (4 : Int32) < y4) → az_in y4 L = true → F_law_C14 (fun V T S hs Mo f y4 => F_law_L n xs L V T S hs Mo f y4) xs L V T S hs Mo f y4 = some 1 → va_P g.1 az_cl (((az_ou g ob f :: az_wF g ax an au aw V T S hs) ++ az_cM g ad Mo)) H → va_D (fun q : Nat => s.heap.size ≤ q) (((az_ou g ob f :: az_wF g ax an au aw V T S hs) ++ az_cM g ad Mo)) → va_S (fun q : Nat => s.heap.size ≤ q) s.heap H locs → lv_has ls 7 [(0, .ref (b)), (1, .ref (ax 0)), (2, .ref (ad 0)), (3, .ref (ob)), (4, .int y4)] → W p l e room_1 s m #[Value.ref b] below meth c H locs cn sn (lw_Z below #[Value.ref b] s) (F0 m 1029 ls []) := by
  intro cn sn V T S hs Mo f y4 H locs ls hcn hsn c29 i35 h hP hD hS hl
  obtain ⟨hx, hb, hr, hml, hown, -, -, -, hlocks, -⟩ := id C0
  unfold F_law_C14 at h
  obtain ⟨A, eA⟩ : ∃ A : Nat → Prop, A = (fun q : Nat => s.heap.size ≤ q) := ⟨_, rfl⟩
  rw [← eA] at hbA hcx hA hD hS ih
  refine lv_aload_n hx hb dL_law_1029 rfl (lv_at hl 1 rfl) ?_
  refine lv_aload_n hx hb dL_law_1030 rfl (lv_at hl 0 rfl) ?_
  refine lv_iload hx hb dL_law_1031 (lv_at hl 4 rfl) ?_
  refine lv_iconst (v := (1 : Int32)) hx hb dL_law_1033 (by decide) ?_
  refine lv_iadd hx hb dL_law_1034 ?_
  obtain ⟨i1035, h⟩ := az_ite h
  refine va_sld hx hb hX hbl hbA hS (az_vin i1035) dL_law_1035 ?_
  refine lv_aload_n hx hb dL_law_1036 rfl (lv_at hl 3 rfl) ?_
  obtain ⟨o1037, hc1037, h⟩ := az_bnd h
  refine az_callLW (wr := az_cM g ad Mo) (As := [.ref (ax 0), .int (xs (y4 + (1 : Int32)).toNatClampNeg), .ref (ob)]) (rest := []) ⟨hx, hb, hml, hown, hts⟩ hl.1 (kL_ownBlocks l hst g sa ax an au aw ob V T S hs f (xs (y4 + (1 : Int32)).toNatClampNeg) o1037 hc1037) (vx_cwSW (hh := [(0, 9, 12, 19), (0, 9, 15, 21)]) 3 hts gL_law_L_ownBlocks rfl rfl rfl (by decide +kernel) ⟨(Nat.le_of_ble_eq_true rfl), (Nat.le_of_ble_eq_true rfl)⟩) rfl hK hcx hP hD hS hA (Nat.le_of_ble_eq_true rfl) dL_law_1037 ⟨by show _ ≤ 601024; omega, by show _ ≤ 7293034; omega⟩ rfl (fun H locs hP hD hS => ?_)
  have hP : va_P g.1 az_cl (((az_ou g ob o1037.2.1 :: az_wF g ax an au aw o1037.2.2.1 o1037.2.2.2.1 o1037.2.2.2.2.1 o1037.2.2.2.2.2) ++ az_cM g ad Mo)) _ := hP
  have hD : va_D A (((az_ou g ob o1037.2.1 :: az_wF g ax an au aw o1037.2.2.1 o1037.2.2.2.1 o1037.2.2.2.2.1 o1037.2.2.2.2.2) ++ az_cM g ad Mo)) := hD
  refine lv_istore (lv' := [(5, .int o1037.1), (0, .ref (b)), (1, .ref (ax 0)), (2, .ref (ad 0)), (3, .ref (ob)), (4, .int y4)]) hx hb dL_law_1040 hl (by decide) rfl (fun ls hl => ?_)
  refine lv_aload_n hx hb dL_law_1042 rfl (lv_at hl 3 rfl) ?_
  refine lv_aload_n hx hb dL_law_1043 rfl (lv_at hl 1 rfl) ?_
  refine lv_iload hx hb dL_law_1044 (lv_at hl 5 rfl) ?_
  refine lv_iconst (v := (1 : Int32)) hx hb dL_law_1046 (by decide) ?_
  refine lv_iadd hx hb dL_law_1047 ?_
  refine va_sld hx hb hX hbl hbA hS (az_vin i1035) dL_law_1048 ?_
  obtain ⟨o1049, hc1049, h⟩ := az_bnd h
  refine az_callPi (wr := (az_ou g ob o1037.2.1 :: az_wF g ax an au aw o1037.2.2.1 o1037.2.2.2.1 o1037.2.2.2.2.1 o1037.2.2.2.2.2)) (w2 := ((az_ou g ob o1037.2.1 :: az_wF g ax an au aw o1037.2.2.1 o1037.2.2.2.1 o1037.2.2.2.2.1 o1037.2.2.2.2.2) ++ az_cM g ad (va_up Mo 2 o1049.2))) (As := [.int (xs (y4 + (1 : Int32)).toNatClampNeg)]) (rest := []) ⟨hx, hb, hml, hown, hts⟩ hl.1 (kX7_ownBlocks l g ad Mo (xs (y4 + (1 : Int32)).toNatClampNeg) o1049 hc1049) (cwV 1 hts gL_law_X7_ownBlocks rfl rfl rfl (by decide +kernel) ⟨(Nat.le_of_ble_eq_true rfl), (Nat.le_of_ble_eq_true rfl)⟩) rfl hK hP hD hS hA List.perm_append_comm List.perm_append_comm 0 rfl rfl rfl (Nat.le_of_ble_eq_true rfl) dL_law_1049 ⟨by show _ ≤ 601024; omega, by show _ ≤ 7293034; omega⟩ rfl (fun H locs hP hD hS => ?_)
  have hP : va_P g.1 az_cl (((az_ou g ob o1037.2.1 :: az_wF g ax an au aw o1037.2.2.1 o1037.2.2.2.1 o1037.2.2.2.2.1 o1037.2.2.2.2.2) ++ az_cM g ad (va_up Mo 2 o1049.2))) _ := hP
  have hD : va_D A (((az_ou g ob o1037.2.1 :: az_wF g ax an au aw o1037.2.2.1 o1037.2.2.2.1 o1037.2.2.2.2.1 o1037.2.2.2.2.2) ++ az_cM g ad (va_up Mo 2 o1049.2))) := hD
  refine lv_istore (lv' := [(6, .int o1049.1), (5, .int o1037.1), (0, .ref (b)), (1, .ref (ax 0)), (2, .ref (ad 0)), (3, .ref (ob)), (4, .int y4)]) hx hb dL_law_1052 hl (by decide) rfl (fun ls hl => ?_)
  refine lv_aload_n hx hb dL_law_1054 rfl (lv_at hl 4 rfl) ?_
  obtain ⟨o1055, hc1055, h⟩ := az_bnd h
  refine az_callPi (wr := (az_ou g ob o1037.2.1 :: az_wF g ax an au aw o1037.2.2.1 o1037.2.2.2.1 o1037.2.2.2.2.1 o1037.2.2.2.2.2)) (w2 := ((az_ou g ob o1037.2.1 :: az_wF g ax an au aw o1037.2.2.1 o1037.2.2.2.1 o1037.2.2.2.2.1 o1037.2.2.2.2.2) ++ az_cM g ad (va_up Mo 2 o1049.2))) (As := []) (rest := []) ⟨hx, hb, hml, hown, hts⟩ hl.1 (kX7_thrown l g ad (va_up Mo 2 o1049.2)  o1055 hc1055) (cwV 0 hts gL_law_X7_thrown rfl rfl rfl (by decide +kernel) ⟨(Nat.le_of_ble_eq_true rfl), (Nat.le_of_ble_eq_true rfl)⟩) rfl hK hP hD hS hA List.perm_append_comm List.perm_append_comm 0 rfl rfl rfl (Nat.le_of_ble_eq_true rfl) dL_law_1055 ⟨by show _ ≤ 601024; omega, by show _ ≤ 7293034; omega⟩ rfl (fun H locs hP hD hS => ?_)
  have hP : va_P g.1 az_cl (((az_ou g ob o1037.2.1 :: az_wF g ax an au aw o1037.2.2.1 o1037.2.2.2.1 o1037.2.2.2.2.1 o1037.2.2.2.2.2) ++ az_cM g ad (va_up Mo 2 o1049.2))) _ := hP
  have hD : va_D A (((az_ou g ob o1037.2.1 :: az_wF g ax an au aw o1037.2.2.1 o1037.2.2.2.1 o1037.2.2.2.2.1 o1037.2.2.2.2.2) ++ az_cM g ad (va_up Mo 2 o1049.2))) := hD
  refine lv_iload hx hb dL_law_1058 (lv_at hl 1 rfl) ?_
  refine lv_icmp_eq (tgt := 1065) hx hb dL_law_1060 (by decide) (fun c1060 => ?_) (fun c1060 => ?_)
  · replace h := az_pos c1060 h
    refine lv_iload hx hb dL_law_1065 (lv_at hl 1 rfl) ?_
    refine lv_if_ne (tgt := 1082) hx hb dL_law_1067 (by decide) (fun c1067 => ?_) (fun c1067 => ?_)
    · replace h := az_neg c1067 h
      refine lv_goto (tgt := 2624) hx hb dL_law_1082 (by decide) ?_
      refine lv_iinc (v := y4 + (4 : Int32)) (lv' := [(4, .int (y4 + (4 : Int32))), (6, .int o1049.1), (5, .int o1037.1), (0, .ref (b)), (1, .ref (ax 0)), (2, .ref (ad 0)), (3, .ref (ob))]) hx hb dL_law_2624 hl (k := 6) rfl rfl (by decide) rfl (fun ls hl => ?_)
      refine lv_goto (tgt := 23) hx hb dL_law_2627 (by decide) ?_
      have hP : va_P g.1 az_cl (((az_ou g ob o1037.2.1 :: az_wF g ax an au aw o1037.2.2.1 o1037.2.2.2.1 o1037.2.2.2.2.1 o1037.2.2.2.2.2) ++ az_cM g ad (va_up Mo 2 o1049.2))) _ := hP
      have hD : va_D A (((az_ou g ob o1037.2.1 :: az_wF g ax an au aw o1037.2.2.1 o1037.2.2.2.1 o1037.2.2.2.2.1 o1037.2.2.2.2.2) ++ az_cM g ad (va_up Mo 2 o1049.2))) := hD
      exact ih _ _ _ _ _ _ _ _ _ _ _ _ (by omega) (by omega) h hP hD hS (lv_sub hl [3, 4, 5, 6, 0] rfl)
    · replace h := az_pos c1067 h
      refine lv_aload_n hx hb dL_law_1070 rfl (lv_at hl 5 rfl) ?_
      refine lv_iconst (v := (0 : Int32)) hx hb dL_law_1071 (by decide) ?_
      refine va_lald (D := g.1) (f := o1037.2.1) hx hb hK hP 0 2 rfl rfl (az_vin (by decide +kernel)) dL_law_1072 ?_
      refine lv_iload hx hb dL_law_1073 (lv_at hl 0 rfl) ?_
      refine lv_i2l (v := o1049.1.toInt64) hx hb dL_law_1075 rfl ?_
      refine W.lcmp hx hb dL_law_1076 ?_
      refine lv_if_eq (tgt := 1082) hx hb dL_law_1077 (by decide) (fun c1077 => ?_) (fun c1077 => ?_)
      · replace h := az_pos c1077 h
        refine lv_goto (tgt := 2624) hx hb dL_law_1082 (by decide) ?_
        refine lv_iinc (v := y4 + (4 : Int32)) (lv' := [(4, .int (y4 + (4 : Int32))), (6, .int o1049.1), (5, .int o1037.1), (0, .ref (b)), (1, .ref (ax 0)), (2, .ref (ad 0)), (3, .ref (ob))]) hx hb dL_law_2624 hl (k := 6) rfl rfl (by decide) rfl (fun ls hl => ?_)
        refine lv_goto (tgt := 23) hx hb dL_law_2627 (by decide) ?_
        have hP : va_P g.1 az_cl (((az_ou g ob o1037.2.1 :: az_wF g ax an au aw o1037.2.2.1 o1037.2.2.2.1 o1037.2.2.2.2.1 o1037.2.2.2.2.2) ++ az_cM g ad (va_up Mo 2 o1049.2))) _ := hP
        have hD : va_D A (((az_ou g ob o1037.2.1 :: az_wF g ax an au aw o1037.2.2.1 o1037.2.2.2.1 o1037.2.2.2.2.1 o1037.2.2.2.2.2) ++ az_cM g ad (va_up Mo 2 o1049.2))) := hD
        exact ih _ _ _ _ _ _ _ _ _ _ _ _ (by omega) (by omega) h hP hD hS (lv_sub hl [3, 4, 5, 6, 0] rfl)
      · replace h := az_neg c1077 h
        refine lv_iconst (v := (0 : Int32)) hx hb dL_law_1080 (by decide) ?_
        exact absurd (Option.some.inj h) (by decide)
  · replace h := az_neg c1060 h
    refine lv_iconst (v := (0 : Int32)) hx hb dL_law_1063 (by decide) ?_
    exact absurd (Option.some.inj h) (by decide)
set_option maxHeartbeats 8000000 in
set_option maxRecDepth 100000 in
theorem LWC15 {p : Program} {e : Env} {s : State} {m : MethodId} {below : List Frame} {meth : Method} {c : Code} (l : Launch) (hst : l.stackTraces = false) {b L : Nat} {xs : Nat → Int32} (hL : L ≤ 2048) (C0 : lw_At p s m meth c b L xs) (g : az_G) (sa : Nat → Nat) (ax an au : Nat → Nat) (aw : Nat → Nat → Nat) (ob : Nat) (ad : Nat → Nat) (hX : va_X b L xs s s.heap) (hbl : b < s.heap.size) (hbA : ¬ (fun q : Nat => s.heap.size ≤ q) b) (hcx : az_cx sa (fun q : Nat => s.heap.size ≤ q) s s.heap) (hA : ∀ q : Nat, s.heap.size ≤ q → (fun q : Nat => s.heap.size ≤ q) q) (hK : va_K g.1 az_cl (az_tys g) s) (hts : ∀ w ∈ wsL_law, w.before #[Value.ref b] s = true) (n : Nat) (ih : ∀ (cn sn : Nat) (V T : az_St) (S : Nat → az_St) (hs : Nat → Int32) (Mo : az_St) (f : Nat → Int64) (y4 : Int32) (H : Heap) (locs : List Loc) (ls : Array Slot), cn + 6 * n ≤ 5000 → sn + 36 * n ≤ 60000 → F_law_L n xs L V T S hs Mo f y4 = some 1 → va_P g.1 az_cl (((az_ou g ob f :: az_wF g ax an au aw V T S hs) ++ az_cM g ad Mo)) H → va_D (fun q : Nat => s.heap.size ≤ q) (((az_ou g ob f :: az_wF g ax an au aw V T S hs) ++ az_cM g ad Mo)) → va_S (fun q : Nat => s.heap.size ≤ q) s.heap H locs → lv_has ls 7 [(0, .ref (b)), (1, .ref (ax 0)), (2, .ref (ad 0)), (3, .ref (ob)), (4, .int y4)] → W p l e room_1 s m #[Value.ref b] below meth c H locs cn sn (lw_Z below #[Value.ref b] s) (F0 m 23 ls [])) : ∀ (cn sn : Nat) (V T : az_St) (S : Nat → az_St) (hs : Nat → Int32) (Mo : az_St) (f : Nat → Int64) (y4 : Int32) (H : Heap) (locs : List Loc) (ls : Array Slot), cn + 6 * (n + 1) ≤ 5000 → sn + 36 * (n + 1) ≤ 60000 → ¬ ((Int32.ofNat L) - (4 : Int32) < y4) → az_in y4 L = true → F_law_C15 (fun V T S hs Mo f y4 => F_law_L n xs L V T S hs Mo f y4) xs L V T S hs Mo f y4 = some 1 → va_P g.1 az_cl (((az_ou g ob f :: az_wF g ax an au aw V T S hs) ++ az_cM g ad Mo)) H → va_D (fun q : Nat => s.heap.size ≤ q) (((az_ou g ob f :: az_wF g ax an au aw V T S hs) ++ az_cM g ad Mo)) → va_S (fun q : Nat => s.heap.size ≤ q) s.heap H locs → lv_has ls 7 [(0, .ref (b)), (1, .ref (ax 0)), (2, .ref (ad 0)), (3, .ref (ob)), (4, .int y4)] → W p l e room_1 s m #[Value.ref b] below meth c H locs cn sn (lw_Z below #[Value.ref b] s) (F0 m 1085 ls []) := by
  intro cn sn V T S hs Mo f y4 H locs ls hcn hsn c29 i35 h hP hD hS hl
  obtain ⟨hx, hb, hr, hml, hown, -, -, -, hlocks, -⟩ := id C0
  unfold F_law_C15 at h
  obtain ⟨A, eA⟩ : ∃ A : Nat → Prop, A = (fun q : Nat => s.heap.size ≤ q) := ⟨_, rfl⟩
  rw [← eA] at hbA hcx hA hD hS ih
  refine lv_aload_n hx hb dL_law_1085 rfl (lv_at hl 1 rfl) ?_
  refine lv_aload_n hx hb dL_law_1086 rfl (lv_at hl 0 rfl) ?_
  refine lv_iload hx hb dL_law_1087 (lv_at hl 4 rfl) ?_
  refine lv_iconst (v := (1 : Int32)) hx hb dL_law_1089 (by decide) ?_
  refine lv_iadd hx hb dL_law_1090 ?_
  obtain ⟨i1091, h⟩ := az_ite h
  refine va_sld hx hb hX hbl hbA hS (az_vin i1091) dL_law_1091 ?_
  refine lv_aload_n hx hb dL_law_1092 rfl (lv_at hl 3 rfl) ?_
  obtain ⟨o1093, hc1093, h⟩ := az_bnd h
  refine az_callLW (wr := az_cM g ad Mo) (As := [.ref (ax 0), .int (xs (y4 + (1 : Int32)).toNatClampNeg), .ref (ob)]) (rest := []) ⟨hx, hb, hml, hown, hts⟩ hl.1 (kL_enter l hst g sa ax an au aw ob V T S hs f (xs (y4 + (1 : Int32)).toNatClampNeg) o1093 hc1093) (vx_cwSW (hh := [(0, 9, 12, 19), (0, 9, 15, 21)]) 3 hts gL_law_L_enter rfl rfl rfl (by decide +kernel) ⟨(Nat.le_of_ble_eq_true rfl), (Nat.le_of_ble_eq_true rfl)⟩) rfl hK hcx hP hD hS hA (Nat.le_of_ble_eq_true rfl) dL_law_1093 ⟨by show _ ≤ 601024; omega, by show _ ≤ 7293034; omega⟩ rfl (fun H locs hP hD hS => ?_)
  have hP : va_P g.1 az_cl (((az_ou g ob o1093.2.1 :: az_wF g ax an au aw o1093.2.2.1 o1093.2.2.2.1 o1093.2.2.2.2.1 o1093.2.2.2.2.2) ++ az_cM g ad Mo)) _ := hP
  have hD : va_D A (((az_ou g ob o1093.2.1 :: az_wF g ax an au aw o1093.2.2.1 o1093.2.2.2.1 o1093.2.2.2.2.1 o1093.2.2.2.2.2) ++ az_cM g ad Mo)) := hD
  refine lv_istore (lv' := [(5, .int o1093.1), (0, .ref (b)), (1, .ref (ax 0)), (2, .ref (ad 0)), (3, .ref (ob)), (4, .int y4)]) hx hb dL_law_1096 hl (by decide) rfl (fun ls hl => ?_)
  refine lv_aload_n hx hb dL_law_1098 rfl (lv_at hl 3 rfl) ?_
  refine lv_aload_n hx hb dL_law_1099 rfl (lv_at hl 1 rfl) ?_
  refine lv_iload hx hb dL_law_1100 (lv_at hl 5 rfl) ?_
  refine lv_iconst (v := (1 : Int32)) hx hb dL_law_1102 (by decide) ?_
  refine lv_iadd hx hb dL_law_1103 ?_
  refine va_sld hx hb hX hbl hbA hS (az_vin i1091) dL_law_1104 ?_
  obtain ⟨o1105, hc1105, h⟩ := az_bnd h
  refine az_callPi (wr := (az_ou g ob o1093.2.1 :: az_wF g ax an au aw o1093.2.2.1 o1093.2.2.2.1 o1093.2.2.2.2.1 o1093.2.2.2.2.2)) (w2 := ((az_ou g ob o1093.2.1 :: az_wF g ax an au aw o1093.2.2.1 o1093.2.2.2.1 o1093.2.2.2.2.1 o1093.2.2.2.2.2) ++ az_cM g ad (va_up (va_up (va_up Mo 0 o1105.2.1) 1 o1105.2.2.1) 2 o1105.2.2.2))) (As := [.int (xs (y4 + (1 : Int32)).toNatClampNeg)]) (rest := []) ⟨hx, hb, hml, hown, hts⟩ hl.1 (kX7_enter l g ad Mo (xs (y4 + (1 : Int32)).toNatClampNeg) o1105 hc1105) (cwV 1 hts gL_law_X7_enter rfl rfl rfl (by decide +kernel) ⟨(Nat.le_of_ble_eq_true rfl), (Nat.le_of_ble_eq_true rfl)⟩) rfl hK hP hD hS hA List.perm_append_comm List.perm_append_comm 0 rfl rfl rfl (Nat.le_of_ble_eq_true rfl) dL_law_1105 ⟨by show _ ≤ 601024; omega, by show _ ≤ 7293034; omega⟩ rfl (fun H locs hP hD hS => ?_)
  have hP : va_P g.1 az_cl (((az_ou g ob o1093.2.1 :: az_wF g ax an au aw o1093.2.2.1 o1093.2.2.2.1 o1093.2.2.2.2.1 o1093.2.2.2.2.2) ++ az_cM g ad (va_up (va_up (va_up Mo 0 o1105.2.1) 1 o1105.2.2.1) 2 o1105.2.2.2))) _ := hP
  have hD : va_D A (((az_ou g ob o1093.2.1 :: az_wF g ax an au aw o1093.2.2.1 o1093.2.2.2.1 o1093.2.2.2.2.1 o1093.2.2.2.2.2) ++ az_cM g ad (va_up (va_up (va_up Mo 0 o1105.2.1) 1 o1105.2.2.1) 2 o1105.2.2.2))) := hD
  refine lv_istore (lv' := [(6, .int o1105.1), (5, .int o1093.1), (0, .ref (b)), (1, .ref (ax 0)), (2, .ref (ad 0)), (3, .ref (ob)), (4, .int y4)]) hx hb dL_law_1108 hl (by decide) rfl (fun ls hl => ?_)
  refine lv_aload_n hx hb dL_law_1110 rfl (lv_at hl 4 rfl) ?_
  obtain ⟨o1111, hc1111, h⟩ := az_bnd h
  refine az_callPi (wr := (az_ou g ob o1093.2.1 :: az_wF g ax an au aw o1093.2.2.1 o1093.2.2.2.1 o1093.2.2.2.2.1 o1093.2.2.2.2.2)) (w2 := ((az_ou g ob o1093.2.1 :: az_wF g ax an au aw o1093.2.2.1 o1093.2.2.2.1 o1093.2.2.2.2.1 o1093.2.2.2.2.2) ++ az_cM g ad (va_up (va_up (va_up Mo 0 o1105.2.1) 1 o1105.2.2.1) 2 o1105.2.2.2))) (As := []) (rest := []) ⟨hx, hb, hml, hown, hts⟩ hl.1 (kX7_thrown l g ad (va_up (va_up (va_up Mo 0 o1105.2.1) 1 o1105.2.2.1) 2 o1105.2.2.2)  o1111 hc1111) (cwV 0 hts gL_law_X7_thrown rfl rfl rfl (by decide +kernel) ⟨(Nat.le_of_ble_eq_true rfl), (Nat.le_of_ble_eq_true rfl)⟩) rfl hK hP hD hS hA List.perm_append_comm List.perm_append_comm 0 rfl rfl rfl (Nat.le_of_ble_eq_true rfl) dL_law_1111 ⟨by show _ ≤ 601024; omega, by show _ ≤ 7293034; omega⟩ rfl (fun H locs hP hD hS => ?_)
  have hP : va_P g.1 az_cl (((az_ou g ob o1093.2.1 :: az_wF g ax an au aw o1093.2.2.1 o1093.2.2.2.1 o1093.2.2.2.2.1 o1093.2.2.2.2.2) ++ az_cM g ad (va_up (va_up (va_up Mo 0 o1105.2.1) 1 o1105.2.2.1) 2 o1105.2.2.2))) _ := hP
  have hD : va_D A (((az_ou g ob o1093.2.1 :: az_wF g ax an au aw o1093.2.2.1 o1093.2.2.2.1 o1093.2.2.2.2.1 o1093.2.2.2.2.2) ++ az_cM g ad (va_up (va_up (va_up Mo 0 o1105.2.1) 1 o1105.2.2.1) 2 o1105.2.2.2))) := hD
  refine lv_iload hx hb dL_law_1114 (lv_at hl 1 rfl) ?_
  refine lv_icmp_eq (tgt := 1121) hx hb dL_law_1116 (by decide) (fun c1116 => ?_) (fun c1116 => ?_)
  · replace h := az_pos c1116 h
    refine lv_iload hx hb dL_law_1121 (lv_at hl 1 rfl) ?_
    refine lv_if_ne (tgt := 1138) hx hb dL_law_1123 (by decide) (fun c1123 => ?_) (fun c1123 => ?_)
    · replace h := az_neg c1123 h
      refine lv_goto (tgt := 2624) hx hb dL_law_1138 (by decide) ?_
      refine lv_iinc (v := y4 + (4 : Int32)) (lv' := [(4, .int (y4 + (4 : Int32))), (6, .int o1105.1), (5, .int o1093.1), (0, .ref (b)), (1, .ref (ax 0)), (2, .ref (ad 0)), (3, .ref (ob))]) hx hb dL_law_2624 hl (k := 6) rfl rfl (by decide) rfl (fun ls hl => ?_)
      refine lv_goto (tgt := 23) hx hb dL_law_2627 (by decide) ?_
      have hP : va_P g.1 az_cl (((az_ou g ob o1093.2.1 :: az_wF g ax an au aw o1093.2.2.1 o1093.2.2.2.1 o1093.2.2.2.2.1 o1093.2.2.2.2.2) ++ az_cM g ad (va_up (va_up (va_up Mo 0 o1105.2.1) 1 o1105.2.2.1) 2 o1105.2.2.2))) _ := hP
      have hD : va_D A (((az_ou g ob o1093.2.1 :: az_wF g ax an au aw o1093.2.2.1 o1093.2.2.2.1 o1093.2.2.2.2.1 o1093.2.2.2.2.2) ++ az_cM g ad (va_up (va_up (va_up Mo 0 o1105.2.1) 1 o1105.2.2.1) 2 o1105.2.2.2))) := hD
      exact ih _ _ _ _ _ _ _ _ _ _ _ _ (by omega) (by omega) h hP hD hS (lv_sub hl [3, 4, 5, 6, 0] rfl)
    · replace h := az_pos c1123 h
      refine lv_aload_n hx hb dL_law_1126 rfl (lv_at hl 5 rfl) ?_
      refine lv_iconst (v := (0 : Int32)) hx hb dL_law_1127 (by decide) ?_
      refine va_lald (D := g.1) (f := o1093.2.1) hx hb hK hP 0 2 rfl rfl (az_vin (by decide +kernel)) dL_law_1128 ?_
      refine lv_iload hx hb dL_law_1129 (lv_at hl 0 rfl) ?_
      refine lv_i2l (v := o1105.1.toInt64) hx hb dL_law_1131 rfl ?_
      refine W.lcmp hx hb dL_law_1132 ?_
      refine lv_if_eq (tgt := 1138) hx hb dL_law_1133 (by decide) (fun c1133 => ?_) (fun c1133 => ?_)
      · replace h := az_pos c1133 h
        refine lv_goto (tgt := 2624) hx hb dL_law_1138 (by decide) ?_
        refine lv_iinc (v := y4 + (4 : Int32)) (lv' := [(4, .int (y4 + (4 : Int32))), (6, .int o1105.1), (5, .int o1093.1), (0, .ref (b)), (1, .ref (ax 0)), (2, .ref (ad 0)), (3, .ref (ob))]) hx hb dL_law_2624 hl (k := 6) rfl rfl (by decide) rfl (fun ls hl => ?_)
        refine lv_goto (tgt := 23) hx hb dL_law_2627 (by decide) ?_
        have hP : va_P g.1 az_cl (((az_ou g ob o1093.2.1 :: az_wF g ax an au aw o1093.2.2.1 o1093.2.2.2.1 o1093.2.2.2.2.1 o1093.2.2.2.2.2) ++ az_cM g ad (va_up (va_up (va_up Mo 0 o1105.2.1) 1 o1105.2.2.1) 2 o1105.2.2.2))) _ := hP
        have hD : va_D A (((az_ou g ob o1093.2.1 :: az_wF g ax an au aw o1093.2.2.1 o1093.2.2.2.1 o1093.2.2.2.2.1 o1093.2.2.2.2.2) ++ az_cM g ad (va_up (va_up (va_up Mo 0 o1105.2.1) 1 o1105.2.2.1) 2 o1105.2.2.2))) := hD
        exact ih _ _ _ _ _ _ _ _ _ _ _ _ (by omega) (by omega) h hP hD hS (lv_sub hl [3, 4, 5, 6, 0] rfl)
      · replace h := az_neg c1133 h
        refine lv_iconst (v := (0 : Int32)) hx hb dL_law_1136 (by decide) ?_
        exact absurd (Option.some.inj h) (by decide)
  · replace h := az_neg c1116 h
    refine lv_iconst (v := (0 : Int32)) hx hb dL_law_1119 (by decide) ?_
    exact absurd (Option.some.inj h) (by decide)
set_option maxHeartbeats 8000000 in
set_option maxRecDepth 100000 in
theorem LWC16 {p : Program} {e : Env} {s : State} {m : MethodId} {below : List Frame} {meth : Method} {c : Code} (l : Launch) (hst : l.stackTraces = false) {b L : Nat} {xs : Nat → Int32} (hL : L ≤ 2048) (C0 : lw_At p s m meth c b L xs) (g : az_G) (sa : Nat → Nat) (ax an au : Nat → Nat) (aw : Nat → Nat → Nat) (ob : Nat) (ad : Nat → Nat) (hX : va_X b L xs s s.heap) (hbl : b < s.heap.size) (hbA : ¬ (fun q : Nat => s.heap.size ≤ q) b) (hcx : az_cx sa (fun q : Nat => s.heap.size ≤ q) s s.heap) (hA : ∀ q : Nat, s.heap.size ≤ q → (fun q : Nat => s.heap.size ≤ q) q) (hK : va_K g.1 az_cl (az_tys g) s) (hts : ∀ w ∈ wsL_law, w.before #[Value.ref b] s = true) (n : Nat) (ih : ∀ (cn sn : Nat) (V T : az_St) (S : Nat → az_St) (hs : Nat → Int32) (Mo : az_St) (f : Nat → Int64) (y4 : Int32) (H : Heap) (locs : List Loc) (ls : Array Slot), cn + 6 * n ≤ 5000 → sn + 36 * n ≤ 60000 → F_law_L n xs L V T S hs Mo f y4 = some 1 → va_P g.1 az_cl (((az_ou g ob f :: az_wF g ax an au aw V T S hs) ++ az_cM g ad Mo)) H → va_D (fun q : Nat => s.heap.size ≤ q) (((az_ou g ob f :: az_wF g ax an au aw V T S hs) ++ az_cM g ad Mo)) → va_S (fun q : Nat => s.heap.size ≤ q) s.heap H locs → lv_has ls 7 [(0, .ref (b)), (1, .ref (ax 0)), (2, .ref (ad 0)), (3, .ref (ob)), (4, .int y4)] → W p l e room_1 s m #[Value.ref b] below meth c H locs cn sn (lw_Z below #[Value.ref b] s) (F0 m 23 ls [])) : ∀ (cn sn : Nat) (V T : az_St) (S : Nat → az_St) (hs : Nat → Int32) (Mo : az_St) (f : Nat → Int64) (y4 : Int32) (H : Heap) (locs : List Loc) (ls : Array Slot), cn + 6 * (n + 1) ≤ 5000 → sn + 36 * (n + 1) ≤ 60000 → ¬ ((Int32.ofNat L) - (4 : Int32) < y4) → az_in y4 L = true → F_law_C16 (fun V T S hs Mo f y4 => F_law_L n xs L V T S hs Mo f y4) xs L V T S hs Mo f y4 = some 1 → va_P g.1 az_cl (((az_ou g ob f :: az_wF g ax an au aw V T S hs) ++ az_cM g ad Mo)) H → va_D (fun q : Nat => s.heap.size ≤ q) (((az_ou g ob f :: az_wF g ax an au aw V T S hs) ++ az_cM g ad Mo)) → va_S (fun q : Nat => s.heap.size ≤ q) s.heap H locs → lv_has ls 7 [(0, .ref (b)), (1, .ref (ax 0)), (2, .ref (ad 0)), (3, .ref (ob)), (4, .int y4)] → W p l e room_1 s m #[Value.ref b] below meth c H locs cn sn (lw_Z below #[Value.ref b] s) (F0 m 1141 ls []) := by
  intro cn sn V T S hs Mo f y4 H locs ls hcn hsn c29 i35 h hP hD hS hl
  obtain ⟨hx, hb, hr, hml, hown, -, -, -, hlocks, -⟩ := id C0
  unfold F_law_C16 at h
  obtain ⟨A, eA⟩ : ∃ A : Nat → Prop, A = (fun q : Nat => s.heap.size ≤ q) := ⟨_, rfl⟩
  rw [← eA] at hbA hcx hA hD hS ih
  refine lv_aload_n hx hb dL_law_1141 rfl (lv_at hl 1 rfl) ?_
  refine lv_aload_n hx hb dL_law_1142 rfl (lv_at hl 0 rfl) ?_
  refine lv_iload hx hb dL_law_1143 (lv_at hl 4 rfl) ?_
  refine lv_iconst (v := (1 : Int32)) hx hb dL_law_1145 (by decide) ?_
  refine lv_iadd hx hb dL_law_1146 ?_
  obtain ⟨i1147, h⟩ := az_ite h
  refine va_sld hx hb hX hbl hbA hS (az_vin i1147) dL_law_1147 ?_
  refine lv_aload_n hx hb dL_law_1148 rfl (lv_at hl 3 rfl) ?_
  obtain ⟨o1149, hc1149, h⟩ := az_bnd h
  refine az_callLW (wr := az_cM g ad Mo) (As := [.ref (ax 0), .int (xs (y4 + (1 : Int32)).toNatClampNeg), .ref (ob)]) (rest := []) ⟨hx, hb, hml, hown, hts⟩ hl.1 (kL_leave l hst g sa ax an au aw ob V T S hs f (xs (y4 + (1 : Int32)).toNatClampNeg) o1149 hc1149) (vx_cwSW (hh := [(0, 9, 12, 19), (0, 9, 15, 21)]) 3 hts gL_law_L_leave rfl rfl rfl (by decide +kernel) ⟨(Nat.le_of_ble_eq_true rfl), (Nat.le_of_ble_eq_true rfl)⟩) rfl hK hcx hP hD hS hA (Nat.le_of_ble_eq_true rfl) dL_law_1149 ⟨by show _ ≤ 601024; omega, by show _ ≤ 7293034; omega⟩ rfl (fun H locs hP hD hS => ?_)
  have hP : va_P g.1 az_cl (((az_ou g ob o1149.2.1 :: az_wF g ax an au aw o1149.2.2.1 o1149.2.2.2.1 o1149.2.2.2.2.1 o1149.2.2.2.2.2) ++ az_cM g ad Mo)) _ := hP
  have hD : va_D A (((az_ou g ob o1149.2.1 :: az_wF g ax an au aw o1149.2.2.1 o1149.2.2.2.1 o1149.2.2.2.2.1 o1149.2.2.2.2.2) ++ az_cM g ad Mo)) := hD
  refine lv_istore (lv' := [(5, .int o1149.1), (0, .ref (b)), (1, .ref (ax 0)), (2, .ref (ad 0)), (3, .ref (ob)), (4, .int y4)]) hx hb dL_law_1152 hl (by decide) rfl (fun ls hl => ?_)
  refine lv_aload_n hx hb dL_law_1154 rfl (lv_at hl 3 rfl) ?_
  refine lv_aload_n hx hb dL_law_1155 rfl (lv_at hl 1 rfl) ?_
  refine lv_iload hx hb dL_law_1156 (lv_at hl 5 rfl) ?_
  refine lv_iconst (v := (1 : Int32)) hx hb dL_law_1158 (by decide) ?_
  refine lv_iadd hx hb dL_law_1159 ?_
  refine va_sld hx hb hX hbl hbA hS (az_vin i1147) dL_law_1160 ?_
  obtain ⟨o1161, hc1161, h⟩ := az_bnd h
  refine az_callPi (wr := (az_ou g ob o1149.2.1 :: az_wF g ax an au aw o1149.2.2.1 o1149.2.2.2.1 o1149.2.2.2.2.1 o1149.2.2.2.2.2)) (w2 := ((az_ou g ob o1149.2.1 :: az_wF g ax an au aw o1149.2.2.1 o1149.2.2.2.1 o1149.2.2.2.2.1 o1149.2.2.2.2.2) ++ az_cM g ad (va_up (va_up (va_up Mo 0 o1161.2.1) 1 o1161.2.2.1) 2 o1161.2.2.2))) (As := [.int (xs (y4 + (1 : Int32)).toNatClampNeg)]) (rest := []) ⟨hx, hb, hml, hown, hts⟩ hl.1 (kX7_leave l g ad Mo (xs (y4 + (1 : Int32)).toNatClampNeg) o1161 hc1161) (cwV 1 hts gL_law_X7_leave rfl rfl rfl (by decide +kernel) ⟨(Nat.le_of_ble_eq_true rfl), (Nat.le_of_ble_eq_true rfl)⟩) rfl hK hP hD hS hA List.perm_append_comm List.perm_append_comm 0 rfl rfl rfl (Nat.le_of_ble_eq_true rfl) dL_law_1161 ⟨by show _ ≤ 601024; omega, by show _ ≤ 7293034; omega⟩ rfl (fun H locs hP hD hS => ?_)
  have hP : va_P g.1 az_cl (((az_ou g ob o1149.2.1 :: az_wF g ax an au aw o1149.2.2.1 o1149.2.2.2.1 o1149.2.2.2.2.1 o1149.2.2.2.2.2) ++ az_cM g ad (va_up (va_up (va_up Mo 0 o1161.2.1) 1 o1161.2.2.1) 2 o1161.2.2.2))) _ := hP
  have hD : va_D A (((az_ou g ob o1149.2.1 :: az_wF g ax an au aw o1149.2.2.1 o1149.2.2.2.1 o1149.2.2.2.2.1 o1149.2.2.2.2.2) ++ az_cM g ad (va_up (va_up (va_up Mo 0 o1161.2.1) 1 o1161.2.2.1) 2 o1161.2.2.2))) := hD
  refine lv_istore (lv' := [(6, .int o1161.1), (5, .int o1149.1), (0, .ref (b)), (1, .ref (ax 0)), (2, .ref (ad 0)), (3, .ref (ob)), (4, .int y4)]) hx hb dL_law_1164 hl (by decide) rfl (fun ls hl => ?_)
  refine lv_aload_n hx hb dL_law_1166 rfl (lv_at hl 4 rfl) ?_
  obtain ⟨o1167, hc1167, h⟩ := az_bnd h
  refine az_callPi (wr := (az_ou g ob o1149.2.1 :: az_wF g ax an au aw o1149.2.2.1 o1149.2.2.2.1 o1149.2.2.2.2.1 o1149.2.2.2.2.2)) (w2 := ((az_ou g ob o1149.2.1 :: az_wF g ax an au aw o1149.2.2.1 o1149.2.2.2.1 o1149.2.2.2.2.1 o1149.2.2.2.2.2) ++ az_cM g ad (va_up (va_up (va_up Mo 0 o1161.2.1) 1 o1161.2.2.1) 2 o1161.2.2.2))) (As := []) (rest := []) ⟨hx, hb, hml, hown, hts⟩ hl.1 (kX7_thrown l g ad (va_up (va_up (va_up Mo 0 o1161.2.1) 1 o1161.2.2.1) 2 o1161.2.2.2)  o1167 hc1167) (cwV 0 hts gL_law_X7_thrown rfl rfl rfl (by decide +kernel) ⟨(Nat.le_of_ble_eq_true rfl), (Nat.le_of_ble_eq_true rfl)⟩) rfl hK hP hD hS hA List.perm_append_comm List.perm_append_comm 0 rfl rfl rfl (Nat.le_of_ble_eq_true rfl) dL_law_1167 ⟨by show _ ≤ 601024; omega, by show _ ≤ 7293034; omega⟩ rfl (fun H locs hP hD hS => ?_)
  have hP : va_P g.1 az_cl (((az_ou g ob o1149.2.1 :: az_wF g ax an au aw o1149.2.2.1 o1149.2.2.2.1 o1149.2.2.2.2.1 o1149.2.2.2.2.2) ++ az_cM g ad (va_up (va_up (va_up Mo 0 o1161.2.1) 1 o1161.2.2.1) 2 o1161.2.2.2))) _ := hP
  have hD : va_D A (((az_ou g ob o1149.2.1 :: az_wF g ax an au aw o1149.2.2.1 o1149.2.2.2.1 o1149.2.2.2.2.1 o1149.2.2.2.2.2) ++ az_cM g ad (va_up (va_up (va_up Mo 0 o1161.2.1) 1 o1161.2.2.1) 2 o1161.2.2.2))) := hD
  refine lv_iload hx hb dL_law_1170 (lv_at hl 1 rfl) ?_
  refine lv_icmp_eq (tgt := 1177) hx hb dL_law_1172 (by decide) (fun c1172 => ?_) (fun c1172 => ?_)
  · replace h := az_pos c1172 h
    refine lv_iload hx hb dL_law_1177 (lv_at hl 1 rfl) ?_
    refine lv_if_ne (tgt := 1194) hx hb dL_law_1179 (by decide) (fun c1179 => ?_) (fun c1179 => ?_)
    · replace h := az_neg c1179 h
      refine lv_goto (tgt := 2624) hx hb dL_law_1194 (by decide) ?_
      refine lv_iinc (v := y4 + (4 : Int32)) (lv' := [(4, .int (y4 + (4 : Int32))), (6, .int o1161.1), (5, .int o1149.1), (0, .ref (b)), (1, .ref (ax 0)), (2, .ref (ad 0)), (3, .ref (ob))]) hx hb dL_law_2624 hl (k := 6) rfl rfl (by decide) rfl (fun ls hl => ?_)
      refine lv_goto (tgt := 23) hx hb dL_law_2627 (by decide) ?_
      have hP : va_P g.1 az_cl (((az_ou g ob o1149.2.1 :: az_wF g ax an au aw o1149.2.2.1 o1149.2.2.2.1 o1149.2.2.2.2.1 o1149.2.2.2.2.2) ++ az_cM g ad (va_up (va_up (va_up Mo 0 o1161.2.1) 1 o1161.2.2.1) 2 o1161.2.2.2))) _ := hP
      have hD : va_D A (((az_ou g ob o1149.2.1 :: az_wF g ax an au aw o1149.2.2.1 o1149.2.2.2.1 o1149.2.2.2.2.1 o1149.2.2.2.2.2) ++ az_cM g ad (va_up (va_up (va_up Mo 0 o1161.2.1) 1 o1161.2.2.1) 2 o1161.2.2.2))) := hD
      exact ih _ _ _ _ _ _ _ _ _ _ _ _ (by omega) (by omega) h hP hD hS (lv_sub hl [3, 4, 5, 6, 0] rfl)
    · replace h := az_pos c1179 h
      refine lv_aload_n hx hb dL_law_1182 rfl (lv_at hl 5 rfl) ?_
      refine lv_iconst (v := (0 : Int32)) hx hb dL_law_1183 (by decide) ?_
      refine va_lald (D := g.1) (f := o1149.2.1) hx hb hK hP 0 2 rfl rfl (az_vin (by decide +kernel)) dL_law_1184 ?_
      refine lv_iload hx hb dL_law_1185 (lv_at hl 0 rfl) ?_
      refine lv_i2l (v := o1161.1.toInt64) hx hb dL_law_1187 rfl ?_
      refine W.lcmp hx hb dL_law_1188 ?_
      refine lv_if_eq (tgt := 1194) hx hb dL_law_1189 (by decide) (fun c1189 => ?_) (fun c1189 => ?_)
      · replace h := az_pos c1189 h
        refine lv_goto (tgt := 2624) hx hb dL_law_1194 (by decide) ?_
        refine lv_iinc (v := y4 + (4 : Int32)) (lv' := [(4, .int (y4 + (4 : Int32))), (6, .int o1161.1), (5, .int o1149.1), (0, .ref (b)), (1, .ref (ax 0)), (2, .ref (ad 0)), (3, .ref (ob))]) hx hb dL_law_2624 hl (k := 6) rfl rfl (by decide) rfl (fun ls hl => ?_)
        refine lv_goto (tgt := 23) hx hb dL_law_2627 (by decide) ?_
        have hP : va_P g.1 az_cl (((az_ou g ob o1149.2.1 :: az_wF g ax an au aw o1149.2.2.1 o1149.2.2.2.1 o1149.2.2.2.2.1 o1149.2.2.2.2.2) ++ az_cM g ad (va_up (va_up (va_up Mo 0 o1161.2.1) 1 o1161.2.2.1) 2 o1161.2.2.2))) _ := hP
        have hD : va_D A (((az_ou g ob o1149.2.1 :: az_wF g ax an au aw o1149.2.2.1 o1149.2.2.2.1 o1149.2.2.2.2.1 o1149.2.2.2.2.2) ++ az_cM g ad (va_up (va_up (va_up Mo 0 o1161.2.1) 1 o1161.2.2.1) 2 o1161.2.2.2))) := hD
        exact ih _ _ _ _ _ _ _ _ _ _ _ _ (by omega) (by omega) h hP hD hS (lv_sub hl [3, 4, 5, 6, 0] rfl)
      · replace h := az_neg c1189 h
        refine lv_iconst (v := (0 : Int32)) hx hb dL_law_1192 (by decide) ?_
        exact absurd (Option.some.inj h) (by decide)
  · replace h := az_neg c1172 h
    refine lv_iconst (v := (0 : Int32)) hx hb dL_law_1175 (by decide) ?_
    exact absurd (Option.some.inj h) (by decide)
set_option maxHeartbeats 8000000 in
set_option maxRecDepth 100000 in
theorem LWC17 {p : Program} {e : Env} {s : State} {m : MethodId} {below : List Frame} {meth : Method} {c : Code} (l : Launch) (hst : l.stackTraces = false) {b L : Nat} {xs : Nat → Int32} (hL : L ≤ 2048) (C0 : lw_At p s m meth c b L xs) (g : az_G) (sa : Nat → Nat) (ax an au : Nat → Nat) (aw : Nat → Nat → Nat) (ob : Nat) (ad : Nat → Nat) (hX : va_X b L xs s s.heap) (hbl : b < s.heap.size) (hbA : ¬ (fun q : Nat => s.heap.size ≤ q) b) (hcx : az_cx sa (fun q : Nat => s.heap.size ≤ q) s s.heap) (hA : ∀ q : Nat, s.heap.size ≤ q → (fun q : Nat => s.heap.size ≤ q) q) (hK : va_K g.1 az_cl (az_tys g) s) (hts : ∀ w ∈ wsL_law, w.before #[Value.ref b] s = true) (n : Nat) (ih : ∀ (cn sn : Nat) (V T : az_St) (S : Nat → az_St) (hs : Nat → Int32) (Mo : az_St) (f : Nat → Int64) (y4 : Int32) (H : Heap) (locs : List Loc) (ls : Array Slot), cn + 6 * n ≤ 5000 → sn + 36 * n ≤ 60000 → F_law_L n xs L V T S hs Mo f y4 = some 1 → va_P g.1 az_cl (((az_ou g ob f :: az_wF g ax an au aw V T S hs) ++ az_cM g ad Mo)) H → va_D (fun q : Nat => s.heap.size ≤ q) (((az_ou g ob f :: az_wF g ax an au aw V T S hs) ++ az_cM g ad Mo)) → va_S (fun q : Nat => s.heap.size ≤ q) s.heap H locs → lv_has ls 7 [(0, .ref (b)), (1, .ref (ax 0)), (2, .ref (ad 0)), (3, .ref (ob)), (4, .int y4)] → W p l e room_1 s m #[Value.ref b] below meth c H locs cn sn (lw_Z below #[Value.ref b] s) (F0 m 23 ls [])) : ∀ (cn sn : Nat) (V T : az_St) (S : Nat → az_St) (hs : Nat → Int32) (Mo : az_St) (f : Nat → Int64) (y4 : Int32) (H : Heap) (locs : List Loc) (ls : Array Slot), cn + 6 * (n + 1) ≤ 5000 → sn + 36 * (n + 1) ≤ 60000 → ¬ ((Int32.ofNat L) - (4 : Int32) < y4) → az_in y4 L = true → F_law_C17 (fun V T S hs Mo f y4 => F_law_L n xs L V T S hs Mo f y4) xs L V T S hs Mo f y4 = some 1 → va_P g.1 az_cl (((az_ou g ob f :: az_wF g ax an au aw V T S hs) ++ az_cM g ad Mo)) H → va_D (fun q : Nat => s.heap.size ≤ q) (((az_ou g ob f :: az_wF g ax an au aw V T S hs) ++ az_cM g ad Mo)) → va_S (fun q : Nat => s.heap.size ≤ q) s.heap H locs → lv_has ls 7 [(0, .ref (b)), (1, .ref (ax 0)), (2, .ref (ad 0)), (3, .ref (ob)), (4, .int y4)] → W p l e room_1 s m #[Value.ref b] below meth c H locs cn sn (lw_Z below #[Value.ref b] s) (F0 m 1197 ls []) := by
  intro cn sn V T S hs Mo f y4 H locs ls hcn hsn c29 i35 h hP hD hS hl
  obtain ⟨hx, hb, hr, hml, hown, -, -, -, hlocks, -⟩ := id C0
  unfold F_law_C17 at h
  obtain ⟨A, eA⟩ : ∃ A : Nat → Prop, A = (fun q : Nat => s.heap.size ≤ q) := ⟨_, rfl⟩
  rw [← eA] at hbA hcx hA hD hS ih
  refine lv_aload_n hx hb dL_law_1197 rfl (lv_at hl 1 rfl) ?_
  refine lv_aload_n hx hb dL_law_1198 rfl (lv_at hl 0 rfl) ?_
  refine lv_iload hx hb dL_law_1199 (lv_at hl 4 rfl) ?_
  refine lv_iconst (v := (1 : Int32)) hx hb dL_law_1201 (by decide) ?_
  refine lv_iadd hx hb dL_law_1202 ?_
  obtain ⟨i1203, h⟩ := az_ite h
  refine va_sld hx hb hX hbl hbA hS (az_vin i1203) dL_law_1203 ?_
  refine lv_aload_n hx hb dL_law_1204 rfl (lv_at hl 3 rfl) ?_
  obtain ⟨o1205, hc1205, h⟩ := az_bnd h
  refine az_callLW (wr := az_cM g ad Mo) (As := [.ref (ax 0), .int (xs (y4 + (1 : Int32)).toNatClampNeg), .ref (ob)]) (rest := []) ⟨hx, hb, hml, hown, hts⟩ hl.1 (kL_announce l hst g sa ax an au aw ob V T S hs f (xs (y4 + (1 : Int32)).toNatClampNeg) o1205 hc1205) (vx_cwSW (hh := [(0, 9, 12, 19), (0, 9, 15, 21)]) 3 hts gL_law_L_announce rfl rfl rfl (by decide +kernel) ⟨(Nat.le_of_ble_eq_true rfl), (Nat.le_of_ble_eq_true rfl)⟩) rfl hK hcx hP hD hS hA (Nat.le_of_ble_eq_true rfl) dL_law_1205 ⟨by show _ ≤ 601024; omega, by show _ ≤ 7293034; omega⟩ rfl (fun H locs hP hD hS => ?_)
  have hP : va_P g.1 az_cl (((az_ou g ob o1205.2.1 :: az_wF g ax an au aw o1205.2.2.1 o1205.2.2.2.1 o1205.2.2.2.2.1 o1205.2.2.2.2.2) ++ az_cM g ad Mo)) _ := hP
  have hD : va_D A (((az_ou g ob o1205.2.1 :: az_wF g ax an au aw o1205.2.2.1 o1205.2.2.2.1 o1205.2.2.2.2.1 o1205.2.2.2.2.2) ++ az_cM g ad Mo)) := hD
  refine lv_istore (lv' := [(5, .int o1205.1), (0, .ref (b)), (1, .ref (ax 0)), (2, .ref (ad 0)), (3, .ref (ob)), (4, .int y4)]) hx hb dL_law_1208 hl (by decide) rfl (fun ls hl => ?_)
  refine lv_aload_n hx hb dL_law_1210 rfl (lv_at hl 3 rfl) ?_
  refine lv_aload_n hx hb dL_law_1211 rfl (lv_at hl 1 rfl) ?_
  refine lv_iload hx hb dL_law_1212 (lv_at hl 5 rfl) ?_
  refine lv_iconst (v := (1 : Int32)) hx hb dL_law_1214 (by decide) ?_
  refine lv_iadd hx hb dL_law_1215 ?_
  refine va_sld hx hb hX hbl hbA hS (az_vin i1203) dL_law_1216 ?_
  obtain ⟨o1217, hc1217, h⟩ := az_bnd h
  refine az_callPi (wr := (az_ou g ob o1205.2.1 :: az_wF g ax an au aw o1205.2.2.1 o1205.2.2.2.1 o1205.2.2.2.2.1 o1205.2.2.2.2.2)) (w2 := ((az_ou g ob o1205.2.1 :: az_wF g ax an au aw o1205.2.2.1 o1205.2.2.2.1 o1205.2.2.2.2.1 o1205.2.2.2.2.2) ++ az_cM g ad (va_up (va_up (va_up Mo 0 o1217.2.1) 1 o1217.2.2.1) 2 o1217.2.2.2))) (As := [.int (xs (y4 + (1 : Int32)).toNatClampNeg)]) (rest := []) ⟨hx, hb, hml, hown, hts⟩ hl.1 (kX7_announce l g ad Mo (xs (y4 + (1 : Int32)).toNatClampNeg) o1217 hc1217) (cwV 1 hts gL_law_X7_announce rfl rfl rfl (by decide +kernel) ⟨(Nat.le_of_ble_eq_true rfl), (Nat.le_of_ble_eq_true rfl)⟩) rfl hK hP hD hS hA List.perm_append_comm List.perm_append_comm 0 rfl rfl rfl (Nat.le_of_ble_eq_true rfl) dL_law_1217 ⟨by show _ ≤ 601024; omega, by show _ ≤ 7293034; omega⟩ rfl (fun H locs hP hD hS => ?_)
  have hP : va_P g.1 az_cl (((az_ou g ob o1205.2.1 :: az_wF g ax an au aw o1205.2.2.1 o1205.2.2.2.1 o1205.2.2.2.2.1 o1205.2.2.2.2.2) ++ az_cM g ad (va_up (va_up (va_up Mo 0 o1217.2.1) 1 o1217.2.2.1) 2 o1217.2.2.2))) _ := hP
  have hD : va_D A (((az_ou g ob o1205.2.1 :: az_wF g ax an au aw o1205.2.2.1 o1205.2.2.2.1 o1205.2.2.2.2.1 o1205.2.2.2.2.2) ++ az_cM g ad (va_up (va_up (va_up Mo 0 o1217.2.1) 1 o1217.2.2.1) 2 o1217.2.2.2))) := hD
  refine lv_istore (lv' := [(6, .int o1217.1), (5, .int o1205.1), (0, .ref (b)), (1, .ref (ax 0)), (2, .ref (ad 0)), (3, .ref (ob)), (4, .int y4)]) hx hb dL_law_1220 hl (by decide) rfl (fun ls hl => ?_)
  refine lv_aload_n hx hb dL_law_1222 rfl (lv_at hl 4 rfl) ?_
  obtain ⟨o1223, hc1223, h⟩ := az_bnd h
  refine az_callPi (wr := (az_ou g ob o1205.2.1 :: az_wF g ax an au aw o1205.2.2.1 o1205.2.2.2.1 o1205.2.2.2.2.1 o1205.2.2.2.2.2)) (w2 := ((az_ou g ob o1205.2.1 :: az_wF g ax an au aw o1205.2.2.1 o1205.2.2.2.1 o1205.2.2.2.2.1 o1205.2.2.2.2.2) ++ az_cM g ad (va_up (va_up (va_up Mo 0 o1217.2.1) 1 o1217.2.2.1) 2 o1217.2.2.2))) (As := []) (rest := []) ⟨hx, hb, hml, hown, hts⟩ hl.1 (kX7_thrown l g ad (va_up (va_up (va_up Mo 0 o1217.2.1) 1 o1217.2.2.1) 2 o1217.2.2.2)  o1223 hc1223) (cwV 0 hts gL_law_X7_thrown rfl rfl rfl (by decide +kernel) ⟨(Nat.le_of_ble_eq_true rfl), (Nat.le_of_ble_eq_true rfl)⟩) rfl hK hP hD hS hA List.perm_append_comm List.perm_append_comm 0 rfl rfl rfl (Nat.le_of_ble_eq_true rfl) dL_law_1223 ⟨by show _ ≤ 601024; omega, by show _ ≤ 7293034; omega⟩ rfl (fun H locs hP hD hS => ?_)
  have hP : va_P g.1 az_cl (((az_ou g ob o1205.2.1 :: az_wF g ax an au aw o1205.2.2.1 o1205.2.2.2.1 o1205.2.2.2.2.1 o1205.2.2.2.2.2) ++ az_cM g ad (va_up (va_up (va_up Mo 0 o1217.2.1) 1 o1217.2.2.1) 2 o1217.2.2.2))) _ := hP
  have hD : va_D A (((az_ou g ob o1205.2.1 :: az_wF g ax an au aw o1205.2.2.1 o1205.2.2.2.1 o1205.2.2.2.2.1 o1205.2.2.2.2.2) ++ az_cM g ad (va_up (va_up (va_up Mo 0 o1217.2.1) 1 o1217.2.2.1) 2 o1217.2.2.2))) := hD
  refine lv_iload hx hb dL_law_1226 (lv_at hl 1 rfl) ?_
  refine lv_icmp_eq (tgt := 1233) hx hb dL_law_1228 (by decide) (fun c1228 => ?_) (fun c1228 => ?_)
  · replace h := az_pos c1228 h
    refine lv_iload hx hb dL_law_1233 (lv_at hl 1 rfl) ?_
    refine lv_if_ne (tgt := 1250) hx hb dL_law_1235 (by decide) (fun c1235 => ?_) (fun c1235 => ?_)
    · replace h := az_neg c1235 h
      refine lv_goto (tgt := 2624) hx hb dL_law_1250 (by decide) ?_
      refine lv_iinc (v := y4 + (4 : Int32)) (lv' := [(4, .int (y4 + (4 : Int32))), (6, .int o1217.1), (5, .int o1205.1), (0, .ref (b)), (1, .ref (ax 0)), (2, .ref (ad 0)), (3, .ref (ob))]) hx hb dL_law_2624 hl (k := 6) rfl rfl (by decide) rfl (fun ls hl => ?_)
      refine lv_goto (tgt := 23) hx hb dL_law_2627 (by decide) ?_
      have hP : va_P g.1 az_cl (((az_ou g ob o1205.2.1 :: az_wF g ax an au aw o1205.2.2.1 o1205.2.2.2.1 o1205.2.2.2.2.1 o1205.2.2.2.2.2) ++ az_cM g ad (va_up (va_up (va_up Mo 0 o1217.2.1) 1 o1217.2.2.1) 2 o1217.2.2.2))) _ := hP
      have hD : va_D A (((az_ou g ob o1205.2.1 :: az_wF g ax an au aw o1205.2.2.1 o1205.2.2.2.1 o1205.2.2.2.2.1 o1205.2.2.2.2.2) ++ az_cM g ad (va_up (va_up (va_up Mo 0 o1217.2.1) 1 o1217.2.2.1) 2 o1217.2.2.2))) := hD
      exact ih _ _ _ _ _ _ _ _ _ _ _ _ (by omega) (by omega) h hP hD hS (lv_sub hl [3, 4, 5, 6, 0] rfl)
    · replace h := az_pos c1235 h
      refine lv_aload_n hx hb dL_law_1238 rfl (lv_at hl 5 rfl) ?_
      refine lv_iconst (v := (0 : Int32)) hx hb dL_law_1239 (by decide) ?_
      refine va_lald (D := g.1) (f := o1205.2.1) hx hb hK hP 0 2 rfl rfl (az_vin (by decide +kernel)) dL_law_1240 ?_
      refine lv_iload hx hb dL_law_1241 (lv_at hl 0 rfl) ?_
      refine lv_i2l (v := o1217.1.toInt64) hx hb dL_law_1243 rfl ?_
      refine W.lcmp hx hb dL_law_1244 ?_
      refine lv_if_eq (tgt := 1250) hx hb dL_law_1245 (by decide) (fun c1245 => ?_) (fun c1245 => ?_)
      · replace h := az_pos c1245 h
        refine lv_goto (tgt := 2624) hx hb dL_law_1250 (by decide) ?_
        refine lv_iinc (v := y4 + (4 : Int32)) (lv' := [(4, .int (y4 + (4 : Int32))), (6, .int o1217.1), (5, .int o1205.1), (0, .ref (b)), (1, .ref (ax 0)), (2, .ref (ad 0)), (3, .ref (ob))]) hx hb dL_law_2624 hl (k := 6) rfl rfl (by decide) rfl (fun ls hl => ?_)
        refine lv_goto (tgt := 23) hx hb dL_law_2627 (by decide) ?_
        have hP : va_P g.1 az_cl (((az_ou g ob o1205.2.1 :: az_wF g ax an au aw o1205.2.2.1 o1205.2.2.2.1 o1205.2.2.2.2.1 o1205.2.2.2.2.2) ++ az_cM g ad (va_up (va_up (va_up Mo 0 o1217.2.1) 1 o1217.2.2.1) 2 o1217.2.2.2))) _ := hP
        have hD : va_D A (((az_ou g ob o1205.2.1 :: az_wF g ax an au aw o1205.2.2.1 o1205.2.2.2.1 o1205.2.2.2.2.1 o1205.2.2.2.2.2) ++ az_cM g ad (va_up (va_up (va_up Mo 0 o1217.2.1) 1 o1217.2.2.1) 2 o1217.2.2.2))) := hD
        exact ih _ _ _ _ _ _ _ _ _ _ _ _ (by omega) (by omega) h hP hD hS (lv_sub hl [3, 4, 5, 6, 0] rfl)
      · replace h := az_neg c1245 h
        refine lv_iconst (v := (0 : Int32)) hx hb dL_law_1248 (by decide) ?_
        exact absurd (Option.some.inj h) (by decide)
  · replace h := az_neg c1228 h
    refine lv_iconst (v := (0 : Int32)) hx hb dL_law_1231 (by decide) ?_
    exact absurd (Option.some.inj h) (by decide)
set_option maxHeartbeats 8000000 in
set_option maxRecDepth 100000 in
theorem LWC18 {p : Program} {e : Env} {s : State} {m : MethodId} {below : List Frame} {meth : Method} {c : Code} (l : Launch) (hst : l.stackTraces = false) {b L : Nat} {xs : Nat → Int32} (hL : L ≤ 2048) (C0 : lw_At p s m meth c b L xs) (g : az_G) (sa : Nat → Nat) (ax an au : Nat → Nat) (aw : Nat → Nat → Nat) (ob : Nat) (ad : Nat → Nat) (hX : va_X b L xs s s.heap) (hbl : b < s.heap.size) (hbA : ¬ (fun q : Nat => s.heap.size ≤ q) b) (hcx : az_cx sa (fun q : Nat => s.heap.size ≤ q) s s.heap) (hA : ∀ q : Nat, s.heap.size ≤ q → (fun q : Nat => s.heap.size ≤ q) q) (hK : va_K g.1 az_cl (az_tys g) s) (hts : ∀ w ∈ wsL_law, w.before #[Value.ref b] s = true) (n : Nat) (ih : ∀ (cn sn : Nat) (V T : az_St) (S : Nat → az_St) (hs : Nat → Int32) (Mo : az_St) (f : Nat → Int64) (y4 : Int32) (H : Heap) (locs : List Loc) (ls : Array Slot), cn + 6 * n ≤ 5000 → sn + 36 * n ≤ 60000 → F_law_L n xs L V T S hs Mo f y4 = some 1 → va_P g.1 az_cl (((az_ou g ob f :: az_wF g ax an au aw V T S hs) ++ az_cM g ad Mo)) H → va_D (fun q : Nat => s.heap.size ≤ q) (((az_ou g ob f :: az_wF g ax an au aw V T S hs) ++ az_cM g ad Mo)) → va_S (fun q : Nat => s.heap.size ≤ q) s.heap H locs → lv_has ls 7 [(0, .ref (b)), (1, .ref (ax 0)), (2, .ref (ad 0)), (3, .ref (ob)), (4, .int y4)] → W p l e room_1 s m #[Value.ref b] below meth c H locs cn sn (lw_Z below #[Value.ref b] s) (F0 m 23 ls [])) : ∀ (cn sn : Nat) (V T : az_St) (S : Nat → az_St) (hs : Nat → Int32) (Mo : az_St) (f : Nat → Int64) (y4 : Int32) (H : Heap) (locs : List Loc) (ls : Array Slot), cn + 6 * (n + 1) ≤ 5000 → sn + 36 * (n + 1) ≤ 60000 → ¬ ((Int32.ofNat L) - (4 : Int32) < y4) → az_in y4 L = true → F_law_C18 (fun V T S hs Mo f y4 => F_law_L n xs L V T S hs Mo f y4) xs L V T S hs Mo f y4 = some 1 → va_P g.1 az_cl (((az_ou g ob f :: az_wF g ax an au aw V T S hs) ++ az_cM g ad Mo)) H → va_D (fun q : Nat => s.heap.size ≤ q) (((az_ou g ob f :: az_wF g ax an au aw V T S hs) ++ az_cM g ad Mo)) → va_S (fun q : Nat => s.heap.size ≤ q) s.heap H locs → lv_has ls 7 [(0, .ref (b)), (1, .ref (ax 0)), (2, .ref (ad 0)), (3, .ref (ob)), (4, .int y4)] → W p l e room_1 s m #[Value.ref b] below meth c H locs cn sn (lw_Z below #[Value.ref b] s) (F0 m 1253 ls []) := by
  intro cn sn V T S hs Mo f y4 H locs ls hcn hsn c29 i35 h hP hD hS hl
  obtain ⟨hx, hb, hr, hml, hown, -, -, -, hlocks, -⟩ := id C0
  unfold F_law_C18 at h
  obtain ⟨A, eA⟩ : ∃ A : Nat → Prop, A = (fun q : Nat => s.heap.size ≤ q) := ⟨_, rfl⟩
  rw [← eA] at hbA hcx hA hD hS ih
  refine lv_aload_n hx hb dL_law_1253 rfl (lv_at hl 1 rfl) ?_
  refine lv_aload_n hx hb dL_law_1254 rfl (lv_at hl 0 rfl) ?_
  refine lv_iload hx hb dL_law_1255 (lv_at hl 4 rfl) ?_
  refine lv_iconst (v := (1 : Int32)) hx hb dL_law_1257 (by decide) ?_
  refine lv_iadd hx hb dL_law_1258 ?_
  obtain ⟨i1259, h⟩ := az_ite h
  refine va_sld hx hb hX hbl hbA hS (az_vin i1259) dL_law_1259 ?_
  refine lv_aload_n hx hb dL_law_1260 rfl (lv_at hl 0 rfl) ?_
  refine lv_iload hx hb dL_law_1261 (lv_at hl 4 rfl) ?_
  refine lv_iconst (v := (2 : Int32)) hx hb dL_law_1263 (by decide) ?_
  refine lv_iadd hx hb dL_law_1264 ?_
  obtain ⟨i1265, h⟩ := az_ite h
  refine va_sld hx hb hX hbl hbA hS (az_vin i1265) dL_law_1265 ?_
  refine lv_aload_n hx hb dL_law_1266 rfl (lv_at hl 3 rfl) ?_
  obtain ⟨o1267, hc1267, h⟩ := az_bnd h
  refine az_callLW (wr := az_cM g ad Mo) (As := [.ref (ax 0), .int (xs (y4 + (1 : Int32)).toNatClampNeg), .int (xs (y4 + (2 : Int32)).toNatClampNeg), .ref (ob)]) (rest := []) ⟨hx, hb, hml, hown, hts⟩ hl.1 (kL_hold l hst g sa ax an au aw ob V T S hs f (xs (y4 + (1 : Int32)).toNatClampNeg) (xs (y4 + (2 : Int32)).toNatClampNeg) o1267 hc1267) (vx_cwSW (hh := [(0, 10, 13, 19), (0, 10, 17, 21), (0, 10, 21, 27)]) 4 hts gL_law_L_hold rfl rfl rfl (by decide +kernel) ⟨(Nat.le_of_ble_eq_true rfl), (Nat.le_of_ble_eq_true rfl)⟩) rfl hK hcx hP hD hS hA (Nat.le_of_ble_eq_true rfl) dL_law_1267 ⟨by show _ ≤ 601024; omega, by show _ ≤ 7293034; omega⟩ rfl (fun H locs hP hD hS => ?_)
  have hP : va_P g.1 az_cl (((az_ou g ob o1267.2.1 :: az_wF g ax an au aw o1267.2.2.1 o1267.2.2.2.1 o1267.2.2.2.2.1 o1267.2.2.2.2.2) ++ az_cM g ad Mo)) _ := hP
  have hD : va_D A (((az_ou g ob o1267.2.1 :: az_wF g ax an au aw o1267.2.2.1 o1267.2.2.2.1 o1267.2.2.2.2.1 o1267.2.2.2.2.2) ++ az_cM g ad Mo)) := hD
  refine lv_istore (lv' := [(5, .int o1267.1), (0, .ref (b)), (1, .ref (ax 0)), (2, .ref (ad 0)), (3, .ref (ob)), (4, .int y4)]) hx hb dL_law_1270 hl (by decide) rfl (fun ls hl => ?_)
  refine lv_aload_n hx hb dL_law_1272 rfl (lv_at hl 3 rfl) ?_
  refine lv_aload_n hx hb dL_law_1273 rfl (lv_at hl 1 rfl) ?_
  refine lv_iload hx hb dL_law_1274 (lv_at hl 5 rfl) ?_
  refine lv_iconst (v := (1 : Int32)) hx hb dL_law_1276 (by decide) ?_
  refine lv_iadd hx hb dL_law_1277 ?_
  refine va_sld hx hb hX hbl hbA hS (az_vin i1259) dL_law_1278 ?_
  refine lv_aload_n hx hb dL_law_1279 rfl (lv_at hl 1 rfl) ?_
  refine lv_iload hx hb dL_law_1280 (lv_at hl 5 rfl) ?_
  refine lv_iconst (v := (2 : Int32)) hx hb dL_law_1282 (by decide) ?_
  refine lv_iadd hx hb dL_law_1283 ?_
  refine va_sld hx hb hX hbl hbA hS (az_vin i1265) dL_law_1284 ?_
  obtain ⟨o1285, hc1285, h⟩ := az_bnd h
  refine az_callPi (wr := (az_ou g ob o1267.2.1 :: az_wF g ax an au aw o1267.2.2.1 o1267.2.2.2.1 o1267.2.2.2.2.1 o1267.2.2.2.2.2)) (w2 := ((az_ou g ob o1267.2.1 :: az_wF g ax an au aw o1267.2.2.1 o1267.2.2.2.1 o1267.2.2.2.2.1 o1267.2.2.2.2.2) ++ az_cM g ad (va_up (va_up (va_up Mo 0 o1285.2.1) 1 o1285.2.2.1) 2 o1285.2.2.2))) (As := [.int (xs (y4 + (1 : Int32)).toNatClampNeg), .int (xs (y4 + (2 : Int32)).toNatClampNeg)]) (rest := []) ⟨hx, hb, hml, hown, hts⟩ hl.1 (kX7_hold l g ad Mo (xs (y4 + (1 : Int32)).toNatClampNeg) (xs (y4 + (2 : Int32)).toNatClampNeg) o1285 hc1285) (cwV 2 hts gL_law_X7_hold rfl rfl rfl (by decide +kernel) ⟨(Nat.le_of_ble_eq_true rfl), (Nat.le_of_ble_eq_true rfl)⟩) rfl hK hP hD hS hA List.perm_append_comm List.perm_append_comm 0 rfl rfl rfl (Nat.le_of_ble_eq_true rfl) dL_law_1285 ⟨by show _ ≤ 601024; omega, by show _ ≤ 7293034; omega⟩ rfl (fun H locs hP hD hS => ?_)
  have hP : va_P g.1 az_cl (((az_ou g ob o1267.2.1 :: az_wF g ax an au aw o1267.2.2.1 o1267.2.2.2.1 o1267.2.2.2.2.1 o1267.2.2.2.2.2) ++ az_cM g ad (va_up (va_up (va_up Mo 0 o1285.2.1) 1 o1285.2.2.1) 2 o1285.2.2.2))) _ := hP
  have hD : va_D A (((az_ou g ob o1267.2.1 :: az_wF g ax an au aw o1267.2.2.1 o1267.2.2.2.1 o1267.2.2.2.2.1 o1267.2.2.2.2.2) ++ az_cM g ad (va_up (va_up (va_up Mo 0 o1285.2.1) 1 o1285.2.2.1) 2 o1285.2.2.2))) := hD
  refine lv_istore (lv' := [(6, .int o1285.1), (5, .int o1267.1), (0, .ref (b)), (1, .ref (ax 0)), (2, .ref (ad 0)), (3, .ref (ob)), (4, .int y4)]) hx hb dL_law_1288 hl (by decide) rfl (fun ls hl => ?_)
  refine lv_aload_n hx hb dL_law_1290 rfl (lv_at hl 4 rfl) ?_
  obtain ⟨o1291, hc1291, h⟩ := az_bnd h
  refine az_callPi (wr := (az_ou g ob o1267.2.1 :: az_wF g ax an au aw o1267.2.2.1 o1267.2.2.2.1 o1267.2.2.2.2.1 o1267.2.2.2.2.2)) (w2 := ((az_ou g ob o1267.2.1 :: az_wF g ax an au aw o1267.2.2.1 o1267.2.2.2.1 o1267.2.2.2.2.1 o1267.2.2.2.2.2) ++ az_cM g ad (va_up (va_up (va_up Mo 0 o1285.2.1) 1 o1285.2.2.1) 2 o1285.2.2.2))) (As := []) (rest := []) ⟨hx, hb, hml, hown, hts⟩ hl.1 (kX7_thrown l g ad (va_up (va_up (va_up Mo 0 o1285.2.1) 1 o1285.2.2.1) 2 o1285.2.2.2)  o1291 hc1291) (cwV 0 hts gL_law_X7_thrown rfl rfl rfl (by decide +kernel) ⟨(Nat.le_of_ble_eq_true rfl), (Nat.le_of_ble_eq_true rfl)⟩) rfl hK hP hD hS hA List.perm_append_comm List.perm_append_comm 0 rfl rfl rfl (Nat.le_of_ble_eq_true rfl) dL_law_1291 ⟨by show _ ≤ 601024; omega, by show _ ≤ 7293034; omega⟩ rfl (fun H locs hP hD hS => ?_)
  have hP : va_P g.1 az_cl (((az_ou g ob o1267.2.1 :: az_wF g ax an au aw o1267.2.2.1 o1267.2.2.2.1 o1267.2.2.2.2.1 o1267.2.2.2.2.2) ++ az_cM g ad (va_up (va_up (va_up Mo 0 o1285.2.1) 1 o1285.2.2.1) 2 o1285.2.2.2))) _ := hP
  have hD : va_D A (((az_ou g ob o1267.2.1 :: az_wF g ax an au aw o1267.2.2.1 o1267.2.2.2.1 o1267.2.2.2.2.1 o1267.2.2.2.2.2) ++ az_cM g ad (va_up (va_up (va_up Mo 0 o1285.2.1) 1 o1285.2.2.1) 2 o1285.2.2.2))) := hD
  refine lv_iload hx hb dL_law_1294 (lv_at hl 1 rfl) ?_
  refine lv_icmp_eq (tgt := 1301) hx hb dL_law_1296 (by decide) (fun c1296 => ?_) (fun c1296 => ?_)
  · replace h := az_pos c1296 h
    refine lv_iload hx hb dL_law_1301 (lv_at hl 1 rfl) ?_
    refine lv_if_ne (tgt := 1318) hx hb dL_law_1303 (by decide) (fun c1303 => ?_) (fun c1303 => ?_)
    · replace h := az_neg c1303 h
      refine lv_goto (tgt := 2624) hx hb dL_law_1318 (by decide) ?_
      refine lv_iinc (v := y4 + (4 : Int32)) (lv' := [(4, .int (y4 + (4 : Int32))), (6, .int o1285.1), (5, .int o1267.1), (0, .ref (b)), (1, .ref (ax 0)), (2, .ref (ad 0)), (3, .ref (ob))]) hx hb dL_law_2624 hl (k := 6) rfl rfl (by decide) rfl (fun ls hl => ?_)
      refine lv_goto (tgt := 23) hx hb dL_law_2627 (by decide) ?_
      have hP : va_P g.1 az_cl (((az_ou g ob o1267.2.1 :: az_wF g ax an au aw o1267.2.2.1 o1267.2.2.2.1 o1267.2.2.2.2.1 o1267.2.2.2.2.2) ++ az_cM g ad (va_up (va_up (va_up Mo 0 o1285.2.1) 1 o1285.2.2.1) 2 o1285.2.2.2))) _ := hP
      have hD : va_D A (((az_ou g ob o1267.2.1 :: az_wF g ax an au aw o1267.2.2.1 o1267.2.2.2.1 o1267.2.2.2.2.1 o1267.2.2.2.2.2) ++ az_cM g ad (va_up (va_up (va_up Mo 0 o1285.2.1) 1 o1285.2.2.1) 2 o1285.2.2.2))) := hD
      exact ih _ _ _ _ _ _ _ _ _ _ _ _ (by omega) (by omega) h hP hD hS (lv_sub hl [3, 4, 5, 6, 0] rfl)
    · replace h := az_pos c1303 h
      refine lv_aload_n hx hb dL_law_1306 rfl (lv_at hl 5 rfl) ?_
      refine lv_iconst (v := (0 : Int32)) hx hb dL_law_1307 (by decide) ?_
      refine va_lald (D := g.1) (f := o1267.2.1) hx hb hK hP 0 2 rfl rfl (az_vin (by decide +kernel)) dL_law_1308 ?_
      refine lv_iload hx hb dL_law_1309 (lv_at hl 0 rfl) ?_
      refine lv_i2l (v := o1285.1.toInt64) hx hb dL_law_1311 rfl ?_
      refine W.lcmp hx hb dL_law_1312 ?_
      refine lv_if_eq (tgt := 1318) hx hb dL_law_1313 (by decide) (fun c1313 => ?_) (fun c1313 => ?_)
      · replace h := az_pos c1313 h
        refine lv_goto (tgt := 2624) hx hb dL_law_1318 (by decide) ?_
        refine lv_iinc (v := y4 + (4 : Int32)) (lv' := [(4, .int (y4 + (4 : Int32))), (6, .int o1285.1), (5, .int o1267.1), (0, .ref (b)), (1, .ref (ax 0)), (2, .ref (ad 0)), (3, .ref (ob))]) hx hb dL_law_2624 hl (k := 6) rfl rfl (by decide) rfl (fun ls hl => ?_)
        refine lv_goto (tgt := 23) hx hb dL_law_2627 (by decide) ?_
        have hP : va_P g.1 az_cl (((az_ou g ob o1267.2.1 :: az_wF g ax an au aw o1267.2.2.1 o1267.2.2.2.1 o1267.2.2.2.2.1 o1267.2.2.2.2.2) ++ az_cM g ad (va_up (va_up (va_up Mo 0 o1285.2.1) 1 o1285.2.2.1) 2 o1285.2.2.2))) _ := hP
        have hD : va_D A (((az_ou g ob o1267.2.1 :: az_wF g ax an au aw o1267.2.2.1 o1267.2.2.2.1 o1267.2.2.2.2.1 o1267.2.2.2.2.2) ++ az_cM g ad (va_up (va_up (va_up Mo 0 o1285.2.1) 1 o1285.2.2.1) 2 o1285.2.2.2))) := hD
        exact ih _ _ _ _ _ _ _ _ _ _ _ _ (by omega) (by omega) h hP hD hS (lv_sub hl [3, 4, 5, 6, 0] rfl)
      · replace h := az_neg c1313 h
        refine lv_iconst (v := (0 : Int32)) hx hb dL_law_1316 (by decide) ?_
        exact absurd (Option.some.inj h) (by decide)
  · replace h := az_neg c1296 h
    refine lv_iconst (v := (0 : Int32)) hx hb dL_law_1299 (by decide) ?_
    exact absurd (Option.some.inj h) (by decide)
set_option maxHeartbeats 8000000 in
set_option maxRecDepth 100000 in
theorem LWC19 {p : Program} {e : Env} {s : State} {m : MethodId} {below : List Frame} {meth : Method} {c : Code} (l : Launch) (hst : l.stackTraces = false) {b L : Nat} {xs : Nat → Int32} (hL : L ≤ 2048) (C0 : lw_At p s m meth c b L xs) (g : az_G) (sa : Nat → Nat) (ax an au : Nat → Nat) (aw : Nat → Nat → Nat) (ob : Nat) (ad : Nat → Nat) (hX : va_X b L xs s s.heap) (hbl : b < s.heap.size) (hbA : ¬ (fun q : Nat => s.heap.size ≤ q) b) (hcx : az_cx sa (fun q : Nat => s.heap.size ≤ q) s s.heap) (hA : ∀ q : Nat, s.heap.size ≤ q → (fun q : Nat => s.heap.size ≤ q) q) (hK : va_K g.1 az_cl (az_tys g) s) (hts : ∀ w ∈ wsL_law, w.before #[Value.ref b] s = true) (n : Nat) (ih : ∀ (cn sn : Nat) (V T : az_St) (S : Nat → az_St) (hs : Nat → Int32) (Mo : az_St) (f : Nat → Int64) (y4 : Int32) (H : Heap) (locs : List Loc) (ls : Array Slot), cn + 6 * n ≤ 5000 → sn + 36 * n ≤ 60000 → F_law_L n xs L V T S hs Mo f y4 = some 1 → va_P g.1 az_cl (((az_ou g ob f :: az_wF g ax an au aw V T S hs) ++ az_cM g ad Mo)) H → va_D (fun q : Nat => s.heap.size ≤ q) (((az_ou g ob f :: az_wF g ax an au aw V T S hs) ++ az_cM g ad Mo)) → va_S (fun q : Nat => s.heap.size ≤ q) s.heap H locs → lv_has ls 7 [(0, .ref (b)), (1, .ref (ax 0)), (2, .ref (ad 0)), (3, .ref (ob)), (4, .int y4)] → W p l e room_1 s m #[Value.ref b] below meth c H locs cn sn (lw_Z below #[Value.ref b] s) (F0 m 23 ls [])) : ∀ (cn sn : Nat) (V T : az_St) (S : Nat → az_St) (hs : Nat → Int32) (Mo : az_St) (f : Nat → Int64) (y4 : Int32) (H : Heap) (locs : List Loc) (ls : Array Slot), cn + 6 * (n + 1) ≤ 5000 → sn + 36 * (n + 1) ≤ 60000 → ¬ ((Int32.ofNat L) - (4 : Int32) < y4) → az_in y4 L = true → F_law_C19 (fun V T S hs Mo f y4 => F_law_L n xs L V T S hs Mo f y4) xs L V T S hs Mo f y4 = some 1 → va_P g.1 az_cl (((az_ou g ob f :: az_wF g ax an au aw V T S hs) ++ az_cM g ad Mo)) H → va_D (fun q : Nat => s.heap.size ≤ q) (((az_ou g ob f :: az_wF g ax an au aw V T S hs) ++ az_cM g ad Mo)) → va_S (fun q : Nat => s.heap.size ≤ q) s.heap H locs → lv_has ls 7 [(0, .ref (b)), (1, .ref (ax 0)), (2, .ref (ad 0)), (3, .ref (ob)), (4, .int y4)] → W p l e room_1 s m #[Value.ref b] below meth c H locs cn sn (lw_Z below #[Value.ref b] s) (F0 m 1321 ls []) := by
  intro cn sn V T S hs Mo f y4 H locs ls hcn hsn c29 i35 h hP hD hS hl
  obtain ⟨hx, hb, hr, hml, hown, -, -, -, hlocks, -⟩ := id C0
  unfold F_law_C19 at h
  obtain ⟨A, eA⟩ : ∃ A : Nat → Prop, A = (fun q : Nat => s.heap.size ≤ q) := ⟨_, rfl⟩
  rw [← eA] at hbA hcx hA hD hS ih
  refine lv_aload_n hx hb dL_law_1321 rfl (lv_at hl 1 rfl) ?_
  refine lv_aload_n hx hb dL_law_1322 rfl (lv_at hl 0 rfl) ?_
  refine lv_iload hx hb dL_law_1323 (lv_at hl 4 rfl) ?_
  refine lv_iconst (v := (1 : Int32)) hx hb dL_law_1325 (by decide) ?_
  refine lv_iadd hx hb dL_law_1326 ?_
  obtain ⟨i1327, h⟩ := az_ite h
  refine va_sld hx hb hX hbl hbA hS (az_vin i1327) dL_law_1327 ?_
  refine lv_aload_n hx hb dL_law_1328 rfl (lv_at hl 0 rfl) ?_
  refine lv_iload hx hb dL_law_1329 (lv_at hl 4 rfl) ?_
  refine lv_iconst (v := (2 : Int32)) hx hb dL_law_1331 (by decide) ?_
  refine lv_iadd hx hb dL_law_1332 ?_
  obtain ⟨i1333, h⟩ := az_ite h
  refine va_sld hx hb hX hbl hbA hS (az_vin i1333) dL_law_1333 ?_
  refine lv_aload_n hx hb dL_law_1334 rfl (lv_at hl 3 rfl) ?_
  obtain ⟨o1335, hc1335, h⟩ := az_bnd h
  refine az_callLW (wr := az_cM g ad Mo) (As := [.ref (ax 0), .int (xs (y4 + (1 : Int32)).toNatClampNeg), .int (xs (y4 + (2 : Int32)).toNatClampNeg), .ref (ob)]) (rest := []) ⟨hx, hb, hml, hown, hts⟩ hl.1 (kL_release l hst g sa ax an au aw ob V T S hs f (xs (y4 + (1 : Int32)).toNatClampNeg) (xs (y4 + (2 : Int32)).toNatClampNeg) o1335 hc1335) (vx_cwSW (hh := [(0, 10, 13, 19), (0, 10, 17, 27)]) 4 hts gL_law_L_release rfl rfl rfl (by decide +kernel) ⟨(Nat.le_of_ble_eq_true rfl), (Nat.le_of_ble_eq_true rfl)⟩) rfl hK hcx hP hD hS hA (Nat.le_of_ble_eq_true rfl) dL_law_1335 ⟨by show _ ≤ 601024; omega, by show _ ≤ 7293034; omega⟩ rfl (fun H locs hP hD hS => ?_)
  have hP : va_P g.1 az_cl (((az_ou g ob o1335.2.1 :: az_wF g ax an au aw o1335.2.2.1 o1335.2.2.2.1 o1335.2.2.2.2.1 o1335.2.2.2.2.2) ++ az_cM g ad Mo)) _ := hP
  have hD : va_D A (((az_ou g ob o1335.2.1 :: az_wF g ax an au aw o1335.2.2.1 o1335.2.2.2.1 o1335.2.2.2.2.1 o1335.2.2.2.2.2) ++ az_cM g ad Mo)) := hD
  refine lv_istore (lv' := [(5, .int o1335.1), (0, .ref (b)), (1, .ref (ax 0)), (2, .ref (ad 0)), (3, .ref (ob)), (4, .int y4)]) hx hb dL_law_1338 hl (by decide) rfl (fun ls hl => ?_)
  refine lv_aload_n hx hb dL_law_1340 rfl (lv_at hl 3 rfl) ?_
  refine lv_aload_n hx hb dL_law_1341 rfl (lv_at hl 1 rfl) ?_
  refine lv_iload hx hb dL_law_1342 (lv_at hl 5 rfl) ?_
  refine lv_iconst (v := (1 : Int32)) hx hb dL_law_1344 (by decide) ?_
  refine lv_iadd hx hb dL_law_1345 ?_
  refine va_sld hx hb hX hbl hbA hS (az_vin i1327) dL_law_1346 ?_
  refine lv_aload_n hx hb dL_law_1347 rfl (lv_at hl 1 rfl) ?_
  refine lv_iload hx hb dL_law_1348 (lv_at hl 5 rfl) ?_
  refine lv_iconst (v := (2 : Int32)) hx hb dL_law_1350 (by decide) ?_
  refine lv_iadd hx hb dL_law_1351 ?_
  refine va_sld hx hb hX hbl hbA hS (az_vin i1333) dL_law_1352 ?_
  obtain ⟨o1353, hc1353, h⟩ := az_bnd h
  refine az_callPi (wr := (az_ou g ob o1335.2.1 :: az_wF g ax an au aw o1335.2.2.1 o1335.2.2.2.1 o1335.2.2.2.2.1 o1335.2.2.2.2.2)) (w2 := ((az_ou g ob o1335.2.1 :: az_wF g ax an au aw o1335.2.2.1 o1335.2.2.2.1 o1335.2.2.2.2.1 o1335.2.2.2.2.2) ++ az_cM g ad (va_up (va_up (va_up Mo 0 o1353.2.1) 1 o1353.2.2.1) 2 o1353.2.2.2))) (As := [.int (xs (y4 + (1 : Int32)).toNatClampNeg), .int (xs (y4 + (2 : Int32)).toNatClampNeg)]) (rest := []) ⟨hx, hb, hml, hown, hts⟩ hl.1 (kX7_release l g ad Mo (xs (y4 + (1 : Int32)).toNatClampNeg) (xs (y4 + (2 : Int32)).toNatClampNeg) o1353 hc1353) (cwV 2 hts gL_law_X7_release rfl rfl rfl (by decide +kernel) ⟨(Nat.le_of_ble_eq_true rfl), (Nat.le_of_ble_eq_true rfl)⟩) rfl hK hP hD hS hA List.perm_append_comm List.perm_append_comm 0 rfl rfl rfl (Nat.le_of_ble_eq_true rfl) dL_law_1353 ⟨by show _ ≤ 601024; omega, by show _ ≤ 7293034; omega⟩ rfl (fun H locs hP hD hS => ?_)
  have hP : va_P g.1 az_cl (((az_ou g ob o1335.2.1 :: az_wF g ax an au aw o1335.2.2.1 o1335.2.2.2.1 o1335.2.2.2.2.1 o1335.2.2.2.2.2) ++ az_cM g ad (va_up (va_up (va_up Mo 0 o1353.2.1) 1 o1353.2.2.1) 2 o1353.2.2.2))) _ := hP
  have hD : va_D A (((az_ou g ob o1335.2.1 :: az_wF g ax an au aw o1335.2.2.1 o1335.2.2.2.1 o1335.2.2.2.2.1 o1335.2.2.2.2.2) ++ az_cM g ad (va_up (va_up (va_up Mo 0 o1353.2.1) 1 o1353.2.2.1) 2 o1353.2.2.2))) := hD
  refine lv_istore (lv' := [(6, .int o1353.1), (5, .int o1335.1), (0, .ref (b)), (1, .ref (ax 0)), (2, .ref (ad 0)), (3, .ref (ob)), (4, .int y4)]) hx hb dL_law_1356 hl (by decide) rfl (fun ls hl => ?_)
  refine lv_aload_n hx hb dL_law_1358 rfl (lv_at hl 4 rfl) ?_
  obtain ⟨o1359, hc1359, h⟩ := az_bnd h
  refine az_callPi (wr := (az_ou g ob o1335.2.1 :: az_wF g ax an au aw o1335.2.2.1 o1335.2.2.2.1 o1335.2.2.2.2.1 o1335.2.2.2.2.2)) (w2 := ((az_ou g ob o1335.2.1 :: az_wF g ax an au aw o1335.2.2.1 o1335.2.2.2.1 o1335.2.2.2.2.1 o1335.2.2.2.2.2) ++ az_cM g ad (va_up (va_up (va_up Mo 0 o1353.2.1) 1 o1353.2.2.1) 2 o1353.2.2.2))) (As := []) (rest := []) ⟨hx, hb, hml, hown, hts⟩ hl.1 (kX7_thrown l g ad (va_up (va_up (va_up Mo 0 o1353.2.1) 1 o1353.2.2.1) 2 o1353.2.2.2)  o1359 hc1359) (cwV 0 hts gL_law_X7_thrown rfl rfl rfl (by decide +kernel) ⟨(Nat.le_of_ble_eq_true rfl), (Nat.le_of_ble_eq_true rfl)⟩) rfl hK hP hD hS hA List.perm_append_comm List.perm_append_comm 0 rfl rfl rfl (Nat.le_of_ble_eq_true rfl) dL_law_1359 ⟨by show _ ≤ 601024; omega, by show _ ≤ 7293034; omega⟩ rfl (fun H locs hP hD hS => ?_)
  have hP : va_P g.1 az_cl (((az_ou g ob o1335.2.1 :: az_wF g ax an au aw o1335.2.2.1 o1335.2.2.2.1 o1335.2.2.2.2.1 o1335.2.2.2.2.2) ++ az_cM g ad (va_up (va_up (va_up Mo 0 o1353.2.1) 1 o1353.2.2.1) 2 o1353.2.2.2))) _ := hP
  have hD : va_D A (((az_ou g ob o1335.2.1 :: az_wF g ax an au aw o1335.2.2.1 o1335.2.2.2.1 o1335.2.2.2.2.1 o1335.2.2.2.2.2) ++ az_cM g ad (va_up (va_up (va_up Mo 0 o1353.2.1) 1 o1353.2.2.1) 2 o1353.2.2.2))) := hD
  refine lv_iload hx hb dL_law_1362 (lv_at hl 1 rfl) ?_
  refine lv_icmp_eq (tgt := 1369) hx hb dL_law_1364 (by decide) (fun c1364 => ?_) (fun c1364 => ?_)
  · replace h := az_pos c1364 h
    refine lv_iload hx hb dL_law_1369 (lv_at hl 1 rfl) ?_
    refine lv_if_ne (tgt := 1386) hx hb dL_law_1371 (by decide) (fun c1371 => ?_) (fun c1371 => ?_)
    · replace h := az_neg c1371 h
      refine lv_goto (tgt := 2624) hx hb dL_law_1386 (by decide) ?_
      refine lv_iinc (v := y4 + (4 : Int32)) (lv' := [(4, .int (y4 + (4 : Int32))), (6, .int o1353.1), (5, .int o1335.1), (0, .ref (b)), (1, .ref (ax 0)), (2, .ref (ad 0)), (3, .ref (ob))]) hx hb dL_law_2624 hl (k := 6) rfl rfl (by decide) rfl (fun ls hl => ?_)
      refine lv_goto (tgt := 23) hx hb dL_law_2627 (by decide) ?_
      have hP : va_P g.1 az_cl (((az_ou g ob o1335.2.1 :: az_wF g ax an au aw o1335.2.2.1 o1335.2.2.2.1 o1335.2.2.2.2.1 o1335.2.2.2.2.2) ++ az_cM g ad (va_up (va_up (va_up Mo 0 o1353.2.1) 1 o1353.2.2.1) 2 o1353.2.2.2))) _ := hP
      have hD : va_D A (((az_ou g ob o1335.2.1 :: az_wF g ax an au aw o1335.2.2.1 o1335.2.2.2.1 o1335.2.2.2.2.1 o1335.2.2.2.2.2) ++ az_cM g ad (va_up (va_up (va_up Mo 0 o1353.2.1) 1 o1353.2.2.1) 2 o1353.2.2.2))) := hD
      exact ih _ _ _ _ _ _ _ _ _ _ _ _ (by omega) (by omega) h hP hD hS (lv_sub hl [3, 4, 5, 6, 0] rfl)
    · replace h := az_pos c1371 h
      refine lv_aload_n hx hb dL_law_1374 rfl (lv_at hl 5 rfl) ?_
      refine lv_iconst (v := (0 : Int32)) hx hb dL_law_1375 (by decide) ?_
      refine va_lald (D := g.1) (f := o1335.2.1) hx hb hK hP 0 2 rfl rfl (az_vin (by decide +kernel)) dL_law_1376 ?_
      refine lv_iload hx hb dL_law_1377 (lv_at hl 0 rfl) ?_
      refine lv_i2l (v := o1353.1.toInt64) hx hb dL_law_1379 rfl ?_
      refine W.lcmp hx hb dL_law_1380 ?_
      refine lv_if_eq (tgt := 1386) hx hb dL_law_1381 (by decide) (fun c1381 => ?_) (fun c1381 => ?_)
      · replace h := az_pos c1381 h
        refine lv_goto (tgt := 2624) hx hb dL_law_1386 (by decide) ?_
        refine lv_iinc (v := y4 + (4 : Int32)) (lv' := [(4, .int (y4 + (4 : Int32))), (6, .int o1353.1), (5, .int o1335.1), (0, .ref (b)), (1, .ref (ax 0)), (2, .ref (ad 0)), (3, .ref (ob))]) hx hb dL_law_2624 hl (k := 6) rfl rfl (by decide) rfl (fun ls hl => ?_)
        refine lv_goto (tgt := 23) hx hb dL_law_2627 (by decide) ?_
        have hP : va_P g.1 az_cl (((az_ou g ob o1335.2.1 :: az_wF g ax an au aw o1335.2.2.1 o1335.2.2.2.1 o1335.2.2.2.2.1 o1335.2.2.2.2.2) ++ az_cM g ad (va_up (va_up (va_up Mo 0 o1353.2.1) 1 o1353.2.2.1) 2 o1353.2.2.2))) _ := hP
        have hD : va_D A (((az_ou g ob o1335.2.1 :: az_wF g ax an au aw o1335.2.2.1 o1335.2.2.2.1 o1335.2.2.2.2.1 o1335.2.2.2.2.2) ++ az_cM g ad (va_up (va_up (va_up Mo 0 o1353.2.1) 1 o1353.2.2.1) 2 o1353.2.2.2))) := hD
        exact ih _ _ _ _ _ _ _ _ _ _ _ _ (by omega) (by omega) h hP hD hS (lv_sub hl [3, 4, 5, 6, 0] rfl)
      · replace h := az_neg c1381 h
        refine lv_iconst (v := (0 : Int32)) hx hb dL_law_1384 (by decide) ?_
        exact absurd (Option.some.inj h) (by decide)
  · replace h := az_neg c1364 h
    refine lv_iconst (v := (0 : Int32)) hx hb dL_law_1367 (by decide) ?_
    exact absurd (Option.some.inj h) (by decide)
set_option maxHeartbeats 8000000 in
set_option maxRecDepth 100000 in
theorem LWC20 {p : Program} {e : Env} {s : State} {m : MethodId} {below : List Frame} {meth : Method} {c : Code} (l : Launch) (hst : l.stackTraces = false) {b L : Nat} {xs : Nat → Int32} (hL : L ≤ 2048) (C0 : lw_At p s m meth c b L xs) (g : az_G) (sa : Nat → Nat) (ax an au : Nat → Nat) (aw : Nat → Nat → Nat) (ob : Nat) (ad : Nat → Nat) (hX : va_X b L xs s s.heap) (hbl : b < s.heap.size) (hbA : ¬ (fun q : Nat => s.heap.size ≤ q) b) (hcx : az_cx sa (fun q : Nat => s.heap.size ≤ q) s s.heap) (hA : ∀ q : Nat, s.heap.size ≤ q → (fun q : Nat => s.heap.size ≤ q) q) (hK : va_K g.1 az_cl (az_tys g) s) (hts : ∀ w ∈ wsL_law, w.before #[Value.ref b] s = true) (n : Nat) (ih : ∀ (cn sn : Nat) (V T : az_St) (S : Nat → az_St) (hs : Nat → Int32) (Mo : az_St) (f : Nat → Int64) (y4 : Int32) (H : Heap) (locs : List Loc) (ls : Array Slot), cn + 6 * n ≤ 5000 → sn + 36 * n ≤ 60000 → F_law_L n xs L V T S hs Mo f y4 = some 1 → va_P g.1 az_cl (((az_ou g ob f :: az_wF g ax an au aw V T S hs) ++ az_cM g ad Mo)) H → va_D (fun q : Nat => s.heap.size ≤ q) (((az_ou g ob f :: az_wF g ax an au aw V T S hs) ++ az_cM g ad Mo)) → va_S (fun q : Nat => s.heap.size ≤ q) s.heap H locs → lv_has ls 7 [(0, .ref (b)), (1, .ref (ax 0)), (2, .ref (ad 0)), (3, .ref (ob)), (4, .int y4)] → W p l e room_1 s m #[Value.ref b] below meth c H locs cn sn (lw_Z below #[Value.ref b] s) (F0 m 23 ls [])) : ∀ (cn sn : Nat) (V T : az_St) (S : Nat → az_St) (hs : Nat → Int32) (Mo : az_St) (f : Nat → Int64) (y4 : Int32) (H : Heap) (locs : List Loc) (ls : Array Slot), cn + 6 * (n + 1) ≤ 5000 → sn + 36 * (n + 1) ≤ 60000 → ¬ ((Int32.ofNat L) - (4 : Int32) < y4) → az_in y4 L = true → F_law_C20 (fun V T S hs Mo f y4 => F_law_L n xs L V T S hs Mo f y4) xs L V T S hs Mo f y4 = some 1 → va_P g.1 az_cl (((az_ou g ob f :: az_wF g ax an au aw V T S hs) ++ az_cM g ad Mo)) H → va_D (fun q : Nat => s.heap.size ≤ q) (((az_ou g ob f :: az_wF g ax an au aw V T S hs) ++ az_cM g ad Mo)) → va_S (fun q : Nat => s.heap.size ≤ q) s.heap H locs → lv_has ls 7 [(0, .ref (b)), (1, .ref (ax 0)), (2, .ref (ad 0)), (3, .ref (ob)), (4, .int y4)] → W p l e room_1 s m #[Value.ref b] below meth c H locs cn sn (lw_Z below #[Value.ref b] s) (F0 m 1389 ls []) := by
  intro cn sn V T S hs Mo f y4 H locs ls hcn hsn c29 i35 h hP hD hS hl
  obtain ⟨hx, hb, hr, hml, hown, -, -, -, hlocks, -⟩ := id C0
  unfold F_law_C20 at h
  obtain ⟨A, eA⟩ : ∃ A : Nat → Prop, A = (fun q : Nat => s.heap.size ≤ q) := ⟨_, rfl⟩
  rw [← eA] at hbA hcx hA hD hS ih
  refine lv_aload_n hx hb dL_law_1389 rfl (lv_at hl 1 rfl) ?_
  refine lv_aload_n hx hb dL_law_1390 rfl (lv_at hl 0 rfl) ?_
  refine lv_iload hx hb dL_law_1391 (lv_at hl 4 rfl) ?_
  refine lv_iconst (v := (1 : Int32)) hx hb dL_law_1393 (by decide) ?_
  refine lv_iadd hx hb dL_law_1394 ?_
  obtain ⟨i1395, h⟩ := az_ite h
  refine va_sld hx hb hX hbl hbA hS (az_vin i1395) dL_law_1395 ?_
  refine lv_aload_n hx hb dL_law_1396 rfl (lv_at hl 0 rfl) ?_
  refine lv_iload hx hb dL_law_1397 (lv_at hl 4 rfl) ?_
  refine lv_iconst (v := (2 : Int32)) hx hb dL_law_1399 (by decide) ?_
  refine lv_iadd hx hb dL_law_1400 ?_
  obtain ⟨i1401, h⟩ := az_ite h
  refine va_sld hx hb hX hbl hbA hS (az_vin i1401) dL_law_1401 ?_
  refine lv_aload_n hx hb dL_law_1402 rfl (lv_at hl 3 rfl) ?_
  obtain ⟨o1403, hc1403, h⟩ := az_bnd h
  refine az_callLW (wr := az_cM g ad Mo) (As := [.ref (ax 0), .int (xs (y4 + (1 : Int32)).toNatClampNeg), .int (xs (y4 + (2 : Int32)).toNatClampNeg), .ref (ob)]) (rest := []) ⟨hx, hb, hml, hown, hts⟩ hl.1 (kL_read l hst g sa ax an au aw ob V T S hs f (xs (y4 + (1 : Int32)).toNatClampNeg) (xs (y4 + (2 : Int32)).toNatClampNeg) o1403 hc1403) (vx_cwSW (hh := [(0, 10, 13, 19), (0, 10, 17, 27)]) 4 hts gL_law_L_read rfl rfl rfl (by decide +kernel) ⟨(Nat.le_of_ble_eq_true rfl), (Nat.le_of_ble_eq_true rfl)⟩) rfl hK hcx hP hD hS hA (Nat.le_of_ble_eq_true rfl) dL_law_1403 ⟨by show _ ≤ 601024; omega, by show _ ≤ 7293034; omega⟩ rfl (fun H locs hP hD hS => ?_)
  have hP : va_P g.1 az_cl (((az_ou g ob o1403.2.1 :: az_wF g ax an au aw o1403.2.2.1 o1403.2.2.2.1 o1403.2.2.2.2.1 o1403.2.2.2.2.2) ++ az_cM g ad Mo)) _ := hP
  have hD : va_D A (((az_ou g ob o1403.2.1 :: az_wF g ax an au aw o1403.2.2.1 o1403.2.2.2.1 o1403.2.2.2.2.1 o1403.2.2.2.2.2) ++ az_cM g ad Mo)) := hD
  refine lv_istore (lv' := [(5, .int o1403.1), (0, .ref (b)), (1, .ref (ax 0)), (2, .ref (ad 0)), (3, .ref (ob)), (4, .int y4)]) hx hb dL_law_1406 hl (by decide) rfl (fun ls hl => ?_)
  refine lv_aload_n hx hb dL_law_1408 rfl (lv_at hl 3 rfl) ?_
  refine lv_aload_n hx hb dL_law_1409 rfl (lv_at hl 1 rfl) ?_
  refine lv_iload hx hb dL_law_1410 (lv_at hl 5 rfl) ?_
  refine lv_iconst (v := (1 : Int32)) hx hb dL_law_1412 (by decide) ?_
  refine lv_iadd hx hb dL_law_1413 ?_
  refine va_sld hx hb hX hbl hbA hS (az_vin i1395) dL_law_1414 ?_
  refine lv_aload_n hx hb dL_law_1415 rfl (lv_at hl 1 rfl) ?_
  refine lv_iload hx hb dL_law_1416 (lv_at hl 5 rfl) ?_
  refine lv_iconst (v := (2 : Int32)) hx hb dL_law_1418 (by decide) ?_
  refine lv_iadd hx hb dL_law_1419 ?_
  refine va_sld hx hb hX hbl hbA hS (az_vin i1401) dL_law_1420 ?_
  obtain ⟨o1421, hc1421, h⟩ := az_bnd h
  refine az_callPi (wr := (az_ou g ob o1403.2.1 :: az_wF g ax an au aw o1403.2.2.1 o1403.2.2.2.1 o1403.2.2.2.2.1 o1403.2.2.2.2.2)) (w2 := ((az_ou g ob o1403.2.1 :: az_wF g ax an au aw o1403.2.2.1 o1403.2.2.2.1 o1403.2.2.2.2.1 o1403.2.2.2.2.2) ++ az_cM g ad (va_up Mo 2 o1421.2))) (As := [.int (xs (y4 + (1 : Int32)).toNatClampNeg), .int (xs (y4 + (2 : Int32)).toNatClampNeg)]) (rest := []) ⟨hx, hb, hml, hown, hts⟩ hl.1 (kX7_read l g ad Mo (xs (y4 + (1 : Int32)).toNatClampNeg) (xs (y4 + (2 : Int32)).toNatClampNeg) o1421 hc1421) (cwV 2 hts gL_law_X7_read rfl rfl rfl (by decide +kernel) ⟨(Nat.le_of_ble_eq_true rfl), (Nat.le_of_ble_eq_true rfl)⟩) rfl hK hP hD hS hA List.perm_append_comm List.perm_append_comm 0 rfl rfl rfl (Nat.le_of_ble_eq_true rfl) dL_law_1421 ⟨by show _ ≤ 601024; omega, by show _ ≤ 7293034; omega⟩ rfl (fun H locs hP hD hS => ?_)
  have hP : va_P g.1 az_cl (((az_ou g ob o1403.2.1 :: az_wF g ax an au aw o1403.2.2.1 o1403.2.2.2.1 o1403.2.2.2.2.1 o1403.2.2.2.2.2) ++ az_cM g ad (va_up Mo 2 o1421.2))) _ := hP
  have hD : va_D A (((az_ou g ob o1403.2.1 :: az_wF g ax an au aw o1403.2.2.1 o1403.2.2.2.1 o1403.2.2.2.2.1 o1403.2.2.2.2.2) ++ az_cM g ad (va_up Mo 2 o1421.2))) := hD
  refine lv_istore (lv' := [(6, .int o1421.1), (5, .int o1403.1), (0, .ref (b)), (1, .ref (ax 0)), (2, .ref (ad 0)), (3, .ref (ob)), (4, .int y4)]) hx hb dL_law_1424 hl (by decide) rfl (fun ls hl => ?_)
  refine lv_aload_n hx hb dL_law_1426 rfl (lv_at hl 4 rfl) ?_
  obtain ⟨o1427, hc1427, h⟩ := az_bnd h
  refine az_callPi (wr := (az_ou g ob o1403.2.1 :: az_wF g ax an au aw o1403.2.2.1 o1403.2.2.2.1 o1403.2.2.2.2.1 o1403.2.2.2.2.2)) (w2 := ((az_ou g ob o1403.2.1 :: az_wF g ax an au aw o1403.2.2.1 o1403.2.2.2.1 o1403.2.2.2.2.1 o1403.2.2.2.2.2) ++ az_cM g ad (va_up Mo 2 o1421.2))) (As := []) (rest := []) ⟨hx, hb, hml, hown, hts⟩ hl.1 (kX7_thrown l g ad (va_up Mo 2 o1421.2)  o1427 hc1427) (cwV 0 hts gL_law_X7_thrown rfl rfl rfl (by decide +kernel) ⟨(Nat.le_of_ble_eq_true rfl), (Nat.le_of_ble_eq_true rfl)⟩) rfl hK hP hD hS hA List.perm_append_comm List.perm_append_comm 0 rfl rfl rfl (Nat.le_of_ble_eq_true rfl) dL_law_1427 ⟨by show _ ≤ 601024; omega, by show _ ≤ 7293034; omega⟩ rfl (fun H locs hP hD hS => ?_)
  have hP : va_P g.1 az_cl (((az_ou g ob o1403.2.1 :: az_wF g ax an au aw o1403.2.2.1 o1403.2.2.2.1 o1403.2.2.2.2.1 o1403.2.2.2.2.2) ++ az_cM g ad (va_up Mo 2 o1421.2))) _ := hP
  have hD : va_D A (((az_ou g ob o1403.2.1 :: az_wF g ax an au aw o1403.2.2.1 o1403.2.2.2.1 o1403.2.2.2.2.1 o1403.2.2.2.2.2) ++ az_cM g ad (va_up Mo 2 o1421.2))) := hD
  refine lv_iload hx hb dL_law_1430 (lv_at hl 1 rfl) ?_
  refine lv_icmp_eq (tgt := 1437) hx hb dL_law_1432 (by decide) (fun c1432 => ?_) (fun c1432 => ?_)
  · replace h := az_pos c1432 h
    refine lv_iload hx hb dL_law_1437 (lv_at hl 1 rfl) ?_
    refine lv_if_ne (tgt := 1454) hx hb dL_law_1439 (by decide) (fun c1439 => ?_) (fun c1439 => ?_)
    · replace h := az_neg c1439 h
      refine lv_goto (tgt := 2624) hx hb dL_law_1454 (by decide) ?_
      refine lv_iinc (v := y4 + (4 : Int32)) (lv' := [(4, .int (y4 + (4 : Int32))), (6, .int o1421.1), (5, .int o1403.1), (0, .ref (b)), (1, .ref (ax 0)), (2, .ref (ad 0)), (3, .ref (ob))]) hx hb dL_law_2624 hl (k := 6) rfl rfl (by decide) rfl (fun ls hl => ?_)
      refine lv_goto (tgt := 23) hx hb dL_law_2627 (by decide) ?_
      have hP : va_P g.1 az_cl (((az_ou g ob o1403.2.1 :: az_wF g ax an au aw o1403.2.2.1 o1403.2.2.2.1 o1403.2.2.2.2.1 o1403.2.2.2.2.2) ++ az_cM g ad (va_up Mo 2 o1421.2))) _ := hP
      have hD : va_D A (((az_ou g ob o1403.2.1 :: az_wF g ax an au aw o1403.2.2.1 o1403.2.2.2.1 o1403.2.2.2.2.1 o1403.2.2.2.2.2) ++ az_cM g ad (va_up Mo 2 o1421.2))) := hD
      exact ih _ _ _ _ _ _ _ _ _ _ _ _ (by omega) (by omega) h hP hD hS (lv_sub hl [3, 4, 5, 6, 0] rfl)
    · replace h := az_pos c1439 h
      refine lv_aload_n hx hb dL_law_1442 rfl (lv_at hl 5 rfl) ?_
      refine lv_iconst (v := (0 : Int32)) hx hb dL_law_1443 (by decide) ?_
      refine va_lald (D := g.1) (f := o1403.2.1) hx hb hK hP 0 2 rfl rfl (az_vin (by decide +kernel)) dL_law_1444 ?_
      refine lv_iload hx hb dL_law_1445 (lv_at hl 0 rfl) ?_
      refine lv_i2l (v := o1421.1.toInt64) hx hb dL_law_1447 rfl ?_
      refine W.lcmp hx hb dL_law_1448 ?_
      refine lv_if_eq (tgt := 1454) hx hb dL_law_1449 (by decide) (fun c1449 => ?_) (fun c1449 => ?_)
      · replace h := az_pos c1449 h
        refine lv_goto (tgt := 2624) hx hb dL_law_1454 (by decide) ?_
        refine lv_iinc (v := y4 + (4 : Int32)) (lv' := [(4, .int (y4 + (4 : Int32))), (6, .int o1421.1), (5, .int o1403.1), (0, .ref (b)), (1, .ref (ax 0)), (2, .ref (ad 0)), (3, .ref (ob))]) hx hb dL_law_2624 hl (k := 6) rfl rfl (by decide) rfl (fun ls hl => ?_)
        refine lv_goto (tgt := 23) hx hb dL_law_2627 (by decide) ?_
        have hP : va_P g.1 az_cl (((az_ou g ob o1403.2.1 :: az_wF g ax an au aw o1403.2.2.1 o1403.2.2.2.1 o1403.2.2.2.2.1 o1403.2.2.2.2.2) ++ az_cM g ad (va_up Mo 2 o1421.2))) _ := hP
        have hD : va_D A (((az_ou g ob o1403.2.1 :: az_wF g ax an au aw o1403.2.2.1 o1403.2.2.2.1 o1403.2.2.2.2.1 o1403.2.2.2.2.2) ++ az_cM g ad (va_up Mo 2 o1421.2))) := hD
        exact ih _ _ _ _ _ _ _ _ _ _ _ _ (by omega) (by omega) h hP hD hS (lv_sub hl [3, 4, 5, 6, 0] rfl)
      · replace h := az_neg c1449 h
        refine lv_iconst (v := (0 : Int32)) hx hb dL_law_1452 (by decide) ?_
        exact absurd (Option.some.inj h) (by decide)
  · replace h := az_neg c1432 h
    refine lv_iconst (v := (0 : Int32)) hx hb dL_law_1435 (by decide) ?_
    exact absurd (Option.some.inj h) (by decide)
set_option maxHeartbeats 8000000 in
set_option maxRecDepth 100000 in
theorem LWC21 {p : Program} {e : Env} {s : State} {m : MethodId} {below : List Frame} {meth : Method} {c : Code} (l : Launch) (hst : l.stackTraces = false) {b L : Nat} {xs : Nat → Int32} (hL : L ≤ 2048) (C0 : lw_At p s m meth c b L xs) (g : az_G) (sa : Nat → Nat) (ax an au : Nat → Nat) (aw : Nat → Nat → Nat) (ob : Nat) (ad : Nat → Nat) (hX : va_X b L xs s s.heap) (hbl : b < s.heap.size) (hbA : ¬ (fun q : Nat => s.heap.size ≤ q) b) (hcx : az_cx sa (fun q : Nat => s.heap.size ≤ q) s s.heap) (hA : ∀ q : Nat, s.heap.size ≤ q → (fun q : Nat => s.heap.size ≤ q) q) (hK : va_K g.1 az_cl (az_tys g) s) (hts : ∀ w ∈ wsL_law, w.before #[Value.ref b] s = true) (n : Nat) (ih : ∀ (cn sn : Nat) (V T : az_St) (S : Nat → az_St) (hs : Nat → Int32) (Mo : az_St) (f : Nat → Int64) (y4 : Int32) (H : Heap) (locs : List Loc) (ls : Array Slot), cn + 6 * n ≤ 5000 → sn + 36 * n ≤ 60000 → F_law_L n xs L V T S hs Mo f y4 = some 1 → va_P g.1 az_cl (((az_ou g ob f :: az_wF g ax an au aw V T S hs) ++ az_cM g ad Mo)) H → va_D (fun q : Nat => s.heap.size ≤ q) (((az_ou g ob f :: az_wF g ax an au aw V T S hs) ++ az_cM g ad Mo)) → va_S (fun q : Nat => s.heap.size ≤ q) s.heap H locs → lv_has ls 7 [(0, .ref (b)), (1, .ref (ax 0)), (2, .ref (ad 0)), (3, .ref (ob)), (4, .int y4)] → W p l e room_1 s m #[Value.ref b] below meth c H locs cn sn (lw_Z below #[Value.ref b] s) (F0 m 23 ls [])) : ∀ (cn sn : Nat) (V T : az_St) (S : Nat → az_St) (hs : Nat → Int32) (Mo : az_St) (f : Nat → Int64) (y4 : Int32) (H : Heap) (locs : List Loc) (ls : Array Slot), cn + 6 * (n + 1) ≤ 5000 → sn + 36 * (n + 1) ≤ 60000 → ¬ ((Int32.ofNat L) - (4 : Int32) < y4) → az_in y4 L = true → F_law_C21 (fun V T S hs Mo f y4 => F_law_L n xs L V T S hs Mo f y4) xs L V T S hs Mo f y4 = some 1 → va_P g.1 az_cl (((az_ou g ob f :: az_wF g ax an au aw V T S hs) ++ az_cM g ad Mo)) H → va_D (fun q : Nat => s.heap.size ≤ q) (((az_ou g ob f :: az_wF g ax an au aw V T S hs) ++ az_cM g ad Mo)) → va_S (fun q : Nat => s.heap.size ≤ q) s.heap H locs → lv_has ls 7 [(0, .ref (b)), (1, .ref (ax 0)), (2, .ref (ad 0)), (3, .ref (ob)), (4, .int y4)] → W p l e room_1 s m #[Value.ref b] below meth c H locs cn sn (lw_Z below #[Value.ref b] s) (F0 m 1457 ls []) := by
  intro cn sn V T S hs Mo f y4 H locs ls hcn hsn c29 i35 h hP hD hS hl
  obtain ⟨hx, hb, hr, hml, hown, -, -, -, hlocks, -⟩ := id C0
  unfold F_law_C21 at h
  obtain ⟨A, eA⟩ : ∃ A : Nat → Prop, A = (fun q : Nat => s.heap.size ≤ q) := ⟨_, rfl⟩
  rw [← eA] at hbA hcx hA hD hS ih
  refine lv_aload_n hx hb dL_law_1457 rfl (lv_at hl 1 rfl) ?_
  refine lv_aload_n hx hb dL_law_1458 rfl (lv_at hl 0 rfl) ?_
  refine lv_iload hx hb dL_law_1459 (lv_at hl 4 rfl) ?_
  refine lv_iconst (v := (1 : Int32)) hx hb dL_law_1461 (by decide) ?_
  refine lv_iadd hx hb dL_law_1462 ?_
  obtain ⟨i1463, h⟩ := az_ite h
  refine va_sld hx hb hX hbl hbA hS (az_vin i1463) dL_law_1463 ?_
  refine lv_aload_n hx hb dL_law_1464 rfl (lv_at hl 0 rfl) ?_
  refine lv_iload hx hb dL_law_1465 (lv_at hl 4 rfl) ?_
  refine lv_iconst (v := (2 : Int32)) hx hb dL_law_1467 (by decide) ?_
  refine lv_iadd hx hb dL_law_1468 ?_
  obtain ⟨i1469, h⟩ := az_ite h
  refine va_sld hx hb hX hbl hbA hS (az_vin i1469) dL_law_1469 ?_
  refine lv_aload_n hx hb dL_law_1470 rfl (lv_at hl 3 rfl) ?_
  obtain ⟨o1471, hc1471, h⟩ := az_bnd h
  refine az_callLW (wr := az_cM g ad Mo) (As := [.ref (ax 0), .int (xs (y4 + (1 : Int32)).toNatClampNeg), .int (xs (y4 + (2 : Int32)).toNatClampNeg), .ref (ob)]) (rest := []) ⟨hx, hb, hml, hown, hts⟩ hl.1 (kL_reader l hst g sa ax an au aw ob V T S hs f (xs (y4 + (1 : Int32)).toNatClampNeg) (xs (y4 + (2 : Int32)).toNatClampNeg) o1471 hc1471) (vx_cwSW (hh := [(0, 10, 13, 19), (0, 10, 17, 13)]) 4 hts gL_law_L_reader rfl rfl rfl (by decide +kernel) ⟨(Nat.le_of_ble_eq_true rfl), (Nat.le_of_ble_eq_true rfl)⟩) rfl hK hcx hP hD hS hA (Nat.le_of_ble_eq_true rfl) dL_law_1471 ⟨by show _ ≤ 601024; omega, by show _ ≤ 7293034; omega⟩ rfl (fun H locs hP hD hS => ?_)
  have hP : va_P g.1 az_cl (((az_ou g ob o1471.2.1 :: az_wF g ax an au aw o1471.2.2.1 o1471.2.2.2.1 o1471.2.2.2.2.1 o1471.2.2.2.2.2) ++ az_cM g ad Mo)) _ := hP
  have hD : va_D A (((az_ou g ob o1471.2.1 :: az_wF g ax an au aw o1471.2.2.1 o1471.2.2.2.1 o1471.2.2.2.2.1 o1471.2.2.2.2.2) ++ az_cM g ad Mo)) := hD
  refine lv_istore (lv' := [(5, .int o1471.1), (0, .ref (b)), (1, .ref (ax 0)), (2, .ref (ad 0)), (3, .ref (ob)), (4, .int y4)]) hx hb dL_law_1474 hl (by decide) rfl (fun ls hl => ?_)
  refine lv_aload_n hx hb dL_law_1476 rfl (lv_at hl 3 rfl) ?_
  refine lv_aload_n hx hb dL_law_1477 rfl (lv_at hl 1 rfl) ?_
  refine lv_iload hx hb dL_law_1478 (lv_at hl 5 rfl) ?_
  refine lv_iconst (v := (1 : Int32)) hx hb dL_law_1480 (by decide) ?_
  refine lv_iadd hx hb dL_law_1481 ?_
  refine va_sld hx hb hX hbl hbA hS (az_vin i1463) dL_law_1482 ?_
  refine lv_aload_n hx hb dL_law_1483 rfl (lv_at hl 1 rfl) ?_
  refine lv_iload hx hb dL_law_1484 (lv_at hl 5 rfl) ?_
  refine lv_iconst (v := (2 : Int32)) hx hb dL_law_1486 (by decide) ?_
  refine lv_iadd hx hb dL_law_1487 ?_
  refine va_sld hx hb hX hbl hbA hS (az_vin i1469) dL_law_1488 ?_
  obtain ⟨o1489, hc1489, h⟩ := az_bnd h
  refine az_callPi (wr := (az_ou g ob o1471.2.1 :: az_wF g ax an au aw o1471.2.2.1 o1471.2.2.2.1 o1471.2.2.2.2.1 o1471.2.2.2.2.2)) (w2 := ((az_ou g ob o1471.2.1 :: az_wF g ax an au aw o1471.2.2.1 o1471.2.2.2.1 o1471.2.2.2.2.1 o1471.2.2.2.2.2) ++ az_cM g ad (va_up Mo 2 o1489.2))) (As := [.int (xs (y4 + (1 : Int32)).toNatClampNeg), .int (xs (y4 + (2 : Int32)).toNatClampNeg)]) (rest := []) ⟨hx, hb, hml, hown, hts⟩ hl.1 (kX7_reader l g ad Mo (xs (y4 + (1 : Int32)).toNatClampNeg) (xs (y4 + (2 : Int32)).toNatClampNeg) o1489 hc1489) (cwV 2 hts gL_law_X7_reader rfl rfl rfl (by decide +kernel) ⟨(Nat.le_of_ble_eq_true rfl), (Nat.le_of_ble_eq_true rfl)⟩) rfl hK hP hD hS hA List.perm_append_comm List.perm_append_comm 0 rfl rfl rfl (Nat.le_of_ble_eq_true rfl) dL_law_1489 ⟨by show _ ≤ 601024; omega, by show _ ≤ 7293034; omega⟩ rfl (fun H locs hP hD hS => ?_)
  have hP : va_P g.1 az_cl (((az_ou g ob o1471.2.1 :: az_wF g ax an au aw o1471.2.2.1 o1471.2.2.2.1 o1471.2.2.2.2.1 o1471.2.2.2.2.2) ++ az_cM g ad (va_up Mo 2 o1489.2))) _ := hP
  have hD : va_D A (((az_ou g ob o1471.2.1 :: az_wF g ax an au aw o1471.2.2.1 o1471.2.2.2.1 o1471.2.2.2.2.1 o1471.2.2.2.2.2) ++ az_cM g ad (va_up Mo 2 o1489.2))) := hD
  refine lv_istore (lv' := [(6, .int o1489.1), (5, .int o1471.1), (0, .ref (b)), (1, .ref (ax 0)), (2, .ref (ad 0)), (3, .ref (ob)), (4, .int y4)]) hx hb dL_law_1492 hl (by decide) rfl (fun ls hl => ?_)
  refine lv_aload_n hx hb dL_law_1494 rfl (lv_at hl 4 rfl) ?_
  obtain ⟨o1495, hc1495, h⟩ := az_bnd h
  refine az_callPi (wr := (az_ou g ob o1471.2.1 :: az_wF g ax an au aw o1471.2.2.1 o1471.2.2.2.1 o1471.2.2.2.2.1 o1471.2.2.2.2.2)) (w2 := ((az_ou g ob o1471.2.1 :: az_wF g ax an au aw o1471.2.2.1 o1471.2.2.2.1 o1471.2.2.2.2.1 o1471.2.2.2.2.2) ++ az_cM g ad (va_up Mo 2 o1489.2))) (As := []) (rest := []) ⟨hx, hb, hml, hown, hts⟩ hl.1 (kX7_thrown l g ad (va_up Mo 2 o1489.2)  o1495 hc1495) (cwV 0 hts gL_law_X7_thrown rfl rfl rfl (by decide +kernel) ⟨(Nat.le_of_ble_eq_true rfl), (Nat.le_of_ble_eq_true rfl)⟩) rfl hK hP hD hS hA List.perm_append_comm List.perm_append_comm 0 rfl rfl rfl (Nat.le_of_ble_eq_true rfl) dL_law_1495 ⟨by show _ ≤ 601024; omega, by show _ ≤ 7293034; omega⟩ rfl (fun H locs hP hD hS => ?_)
  have hP : va_P g.1 az_cl (((az_ou g ob o1471.2.1 :: az_wF g ax an au aw o1471.2.2.1 o1471.2.2.2.1 o1471.2.2.2.2.1 o1471.2.2.2.2.2) ++ az_cM g ad (va_up Mo 2 o1489.2))) _ := hP
  have hD : va_D A (((az_ou g ob o1471.2.1 :: az_wF g ax an au aw o1471.2.2.1 o1471.2.2.2.1 o1471.2.2.2.2.1 o1471.2.2.2.2.2) ++ az_cM g ad (va_up Mo 2 o1489.2))) := hD
  refine lv_iload hx hb dL_law_1498 (lv_at hl 1 rfl) ?_
  refine lv_icmp_eq (tgt := 1505) hx hb dL_law_1500 (by decide) (fun c1500 => ?_) (fun c1500 => ?_)
  · replace h := az_pos c1500 h
    refine lv_iload hx hb dL_law_1505 (lv_at hl 1 rfl) ?_
    refine lv_if_ne (tgt := 1522) hx hb dL_law_1507 (by decide) (fun c1507 => ?_) (fun c1507 => ?_)
    · replace h := az_neg c1507 h
      refine lv_goto (tgt := 2624) hx hb dL_law_1522 (by decide) ?_
      refine lv_iinc (v := y4 + (4 : Int32)) (lv' := [(4, .int (y4 + (4 : Int32))), (6, .int o1489.1), (5, .int o1471.1), (0, .ref (b)), (1, .ref (ax 0)), (2, .ref (ad 0)), (3, .ref (ob))]) hx hb dL_law_2624 hl (k := 6) rfl rfl (by decide) rfl (fun ls hl => ?_)
      refine lv_goto (tgt := 23) hx hb dL_law_2627 (by decide) ?_
      have hP : va_P g.1 az_cl (((az_ou g ob o1471.2.1 :: az_wF g ax an au aw o1471.2.2.1 o1471.2.2.2.1 o1471.2.2.2.2.1 o1471.2.2.2.2.2) ++ az_cM g ad (va_up Mo 2 o1489.2))) _ := hP
      have hD : va_D A (((az_ou g ob o1471.2.1 :: az_wF g ax an au aw o1471.2.2.1 o1471.2.2.2.1 o1471.2.2.2.2.1 o1471.2.2.2.2.2) ++ az_cM g ad (va_up Mo 2 o1489.2))) := hD
      exact ih _ _ _ _ _ _ _ _ _ _ _ _ (by omega) (by omega) h hP hD hS (lv_sub hl [3, 4, 5, 6, 0] rfl)
    · replace h := az_pos c1507 h
      refine lv_aload_n hx hb dL_law_1510 rfl (lv_at hl 5 rfl) ?_
      refine lv_iconst (v := (0 : Int32)) hx hb dL_law_1511 (by decide) ?_
      refine va_lald (D := g.1) (f := o1471.2.1) hx hb hK hP 0 2 rfl rfl (az_vin (by decide +kernel)) dL_law_1512 ?_
      refine lv_iload hx hb dL_law_1513 (lv_at hl 0 rfl) ?_
      refine lv_i2l (v := o1489.1.toInt64) hx hb dL_law_1515 rfl ?_
      refine W.lcmp hx hb dL_law_1516 ?_
      refine lv_if_eq (tgt := 1522) hx hb dL_law_1517 (by decide) (fun c1517 => ?_) (fun c1517 => ?_)
      · replace h := az_pos c1517 h
        refine lv_goto (tgt := 2624) hx hb dL_law_1522 (by decide) ?_
        refine lv_iinc (v := y4 + (4 : Int32)) (lv' := [(4, .int (y4 + (4 : Int32))), (6, .int o1489.1), (5, .int o1471.1), (0, .ref (b)), (1, .ref (ax 0)), (2, .ref (ad 0)), (3, .ref (ob))]) hx hb dL_law_2624 hl (k := 6) rfl rfl (by decide) rfl (fun ls hl => ?_)
        refine lv_goto (tgt := 23) hx hb dL_law_2627 (by decide) ?_
        have hP : va_P g.1 az_cl (((az_ou g ob o1471.2.1 :: az_wF g ax an au aw o1471.2.2.1 o1471.2.2.2.1 o1471.2.2.2.2.1 o1471.2.2.2.2.2) ++ az_cM g ad (va_up Mo 2 o1489.2))) _ := hP
        have hD : va_D A (((az_ou g ob o1471.2.1 :: az_wF g ax an au aw o1471.2.2.1 o1471.2.2.2.1 o1471.2.2.2.2.1 o1471.2.2.2.2.2) ++ az_cM g ad (va_up Mo 2 o1489.2))) := hD
        exact ih _ _ _ _ _ _ _ _ _ _ _ _ (by omega) (by omega) h hP hD hS (lv_sub hl [3, 4, 5, 6, 0] rfl)
      · replace h := az_neg c1517 h
        refine lv_iconst (v := (0 : Int32)) hx hb dL_law_1520 (by decide) ?_
        exact absurd (Option.some.inj h) (by decide)
  · replace h := az_neg c1500 h
    refine lv_iconst (v := (0 : Int32)) hx hb dL_law_1503 (by decide) ?_
    exact absurd (Option.some.inj h) (by decide)
set_option maxHeartbeats 8000000 in
set_option maxRecDepth 100000 in
theorem LWC22 {p : Program} {e : Env} {s : State} {m : MethodId} {below : List Frame} {meth : Method} {c : Code} (l : Launch) (hst : l.stackTraces = false) {b L : Nat} {xs : Nat → Int32} (hL : L ≤ 2048) (C0 : lw_At p s m meth c b L xs) (g : az_G) (sa : Nat → Nat) (ax an au : Nat → Nat) (aw : Nat → Nat → Nat) (ob : Nat) (ad : Nat → Nat) (hX : va_X b L xs s s.heap) (hbl : b < s.heap.size) (hbA : ¬ (fun q : Nat => s.heap.size ≤ q) b) (hcx : az_cx sa (fun q : Nat => s.heap.size ≤ q) s s.heap) (hA : ∀ q : Nat, s.heap.size ≤ q → (fun q : Nat => s.heap.size ≤ q) q) (hK : va_K g.1 az_cl (az_tys g) s) (hts : ∀ w ∈ wsL_law, w.before #[Value.ref b] s = true) (n : Nat) (ih : ∀ (cn sn : Nat) (V T : az_St) (S : Nat → az_St) (hs : Nat → Int32) (Mo : az_St) (f : Nat → Int64) (y4 : Int32) (H : Heap) (locs : List Loc) (ls : Array Slot), cn + 6 * n ≤ 5000 → sn + 36 * n ≤ 60000 → F_law_L n xs L V T S hs Mo f y4 = some 1 → va_P g.1 az_cl (((az_ou g ob f :: az_wF g ax an au aw V T S hs) ++ az_cM g ad Mo)) H → va_D (fun q : Nat => s.heap.size ≤ q) (((az_ou g ob f :: az_wF g ax an au aw V T S hs) ++ az_cM g ad Mo)) → va_S (fun q : Nat => s.heap.size ≤ q) s.heap H locs → lv_has ls 7 [(0, .ref (b)), (1, .ref (ax 0)), (2, .ref (ad 0)), (3, .ref (ob)), (4, .int y4)] → W p l e room_1 s m #[Value.ref b] below meth c H locs cn sn (lw_Z below #[Value.ref b] s) (F0 m 23 ls [])) : ∀ (cn sn : Nat) (V T : az_St) (S : Nat → az_St) (hs : Nat → Int32) (Mo : az_St) (f : Nat → Int64) (y4 : Int32) (H : Heap) (locs : List Loc) (ls : Array Slot), cn + 6 * (n + 1) ≤ 5000 → sn + 36 * (n + 1) ≤ 60000 → ¬ ((Int32.ofNat L) - (4 : Int32) < y4) → az_in y4 L = true → F_law_C22 (fun V T S hs Mo f y4 => F_law_L n xs L V T S hs Mo f y4) xs L V T S hs Mo f y4 = some 1 → va_P g.1 az_cl (((az_ou g ob f :: az_wF g ax an au aw V T S hs) ++ az_cM g ad Mo)) H → va_D (fun q : Nat => s.heap.size ≤ q) (((az_ou g ob f :: az_wF g ax an au aw V T S hs) ++ az_cM g ad Mo)) → va_S (fun q : Nat => s.heap.size ≤ q) s.heap H locs → lv_has ls 7 [(0, .ref (b)), (1, .ref (ax 0)), (2, .ref (ad 0)), (3, .ref (ob)), (4, .int y4)] → W p l e room_1 s m #[Value.ref b] below meth c H locs cn sn (lw_Z below #[Value.ref b] s) (F0 m 1525 ls []) := by
  intro cn sn V T S hs Mo f y4 H locs ls hcn hsn c29 i35 h hP hD hS hl
  obtain ⟨hx, hb, hr, hml, hown, -, -, -, hlocks, -⟩ := id C0
  unfold F_law_C22 at h
  obtain ⟨A, eA⟩ : ∃ A : Nat → Prop, A = (fun q : Nat => s.heap.size ≤ q) := ⟨_, rfl⟩
  rw [← eA] at hbA hcx hA hD hS ih
  refine lv_aload_n hx hb dL_law_1525 rfl (lv_at hl 1 rfl) ?_
  obtain ⟨o1526, hc1526, h⟩ := az_bnd h
  refine az_callPi (w2 := ((az_ou g ob f :: az_wF g ax an au aw V T S hs) ++ az_cM g ad Mo)) (As := []) (rest := []) ⟨hx, hb, hml, hown, hts⟩ hl.1 (kX6_blockers l g ax an au (az_cV g au T ++ az_cH g ax aw S hs) V  o1526 hc1526) (cwV 0 hts gL_law_X6_blockers rfl rfl rfl (by decide +kernel) ⟨(Nat.le_of_ble_eq_true rfl), (Nat.le_of_ble_eq_true rfl)⟩) rfl hK hP hD hS hA (az_pm [az_ou g ob f] (az_wF g ax an au aw V T S hs) (az_cM g ad Mo)) (az_pm [az_ou g ob f] (az_wF g ax an au aw V T S hs) (az_cM g ad Mo)).symm 0 rfl rfl rfl (Nat.le_of_ble_eq_true rfl) dL_law_1526 ⟨by show _ ≤ 601024; omega, by show _ ≤ 7293034; omega⟩ rfl (fun H locs hP hD hS => ?_)
  have hP : va_P g.1 az_cl (((az_ou g ob f :: az_wF g ax an au aw V T S hs) ++ az_cM g ad Mo)) _ := hP
  have hD : va_D A (((az_ou g ob f :: az_wF g ax an au aw V T S hs) ++ az_cM g ad Mo)) := hD
  refine lv_aload_n hx hb dL_law_1529 rfl (lv_at hl 2 rfl) ?_
  obtain ⟨o1530, hc1530, h⟩ := az_bnd h
  refine az_callPi (wr := (az_ou g ob f :: az_wF g ax an au aw V T S hs)) (w2 := ((az_ou g ob f :: az_wF g ax an au aw V T S hs) ++ az_cM g ad (va_up Mo 2 o1530.2))) (As := []) (rest := [.int o1526]) ⟨hx, hb, hml, hown, hts⟩ hl.1 (kX7_blockers l g ad Mo  o1530 hc1530) (cwV 0 hts gL_law_X7_blockers rfl rfl rfl (by decide +kernel) ⟨(Nat.le_of_ble_eq_true rfl), (Nat.le_of_ble_eq_true rfl)⟩) rfl hK hP hD hS hA List.perm_append_comm List.perm_append_comm 0 rfl rfl rfl (Nat.le_of_ble_eq_true rfl) dL_law_1530 ⟨by show _ ≤ 601024; omega, by show _ ≤ 7293034; omega⟩ rfl (fun H locs hP hD hS => ?_)
  have hP : va_P g.1 az_cl (((az_ou g ob f :: az_wF g ax an au aw V T S hs) ++ az_cM g ad (va_up Mo 2 o1530.2))) _ := hP
  have hD : va_D A (((az_ou g ob f :: az_wF g ax an au aw V T S hs) ++ az_cM g ad (va_up Mo 2 o1530.2))) := hD
  refine lv_icmp_eq (tgt := 2624) hx hb dL_law_1533 (by decide) (fun c1533 => ?_) (fun c1533 => ?_)
  · replace h := az_pos c1533 h
    refine lv_iinc (v := y4 + (4 : Int32)) (lv' := [(4, .int (y4 + (4 : Int32))), (0, .ref (b)), (1, .ref (ax 0)), (2, .ref (ad 0)), (3, .ref (ob))]) hx hb dL_law_2624 hl (k := 4) rfl rfl (by decide) rfl (fun ls hl => ?_)
    refine lv_goto (tgt := 23) hx hb dL_law_2627 (by decide) ?_
    have hP : va_P g.1 az_cl (((az_ou g ob f :: az_wF g ax an au aw V T S hs) ++ az_cM g ad (va_up Mo 2 o1530.2))) _ := hP
    have hD : va_D A (((az_ou g ob f :: az_wF g ax an au aw V T S hs) ++ az_cM g ad (va_up Mo 2 o1530.2))) := hD
    exact ih _ _ _ _ _ _ _ _ _ _ _ _ (by omega) (by omega) h hP hD hS (lv_sub hl [1, 2, 3, 4, 0] rfl)
  · replace h := az_neg c1533 h
    refine lv_iconst (v := (0 : Int32)) hx hb dL_law_1536 (by decide) ?_
    exact absurd (Option.some.inj h) (by decide)
set_option maxHeartbeats 8000000 in
set_option maxRecDepth 100000 in
theorem LWC23 {p : Program} {e : Env} {s : State} {m : MethodId} {below : List Frame} {meth : Method} {c : Code} (l : Launch) (hst : l.stackTraces = false) {b L : Nat} {xs : Nat → Int32} (hL : L ≤ 2048) (C0 : lw_At p s m meth c b L xs) (g : az_G) (sa : Nat → Nat) (ax an au : Nat → Nat) (aw : Nat → Nat → Nat) (ob : Nat) (ad : Nat → Nat) (hX : va_X b L xs s s.heap) (hbl : b < s.heap.size) (hbA : ¬ (fun q : Nat => s.heap.size ≤ q) b) (hcx : az_cx sa (fun q : Nat => s.heap.size ≤ q) s s.heap) (hA : ∀ q : Nat, s.heap.size ≤ q → (fun q : Nat => s.heap.size ≤ q) q) (hK : va_K g.1 az_cl (az_tys g) s) (hts : ∀ w ∈ wsL_law, w.before #[Value.ref b] s = true) (n : Nat) (ih : ∀ (cn sn : Nat) (V T : az_St) (S : Nat → az_St) (hs : Nat → Int32) (Mo : az_St) (f : Nat → Int64) (y4 : Int32) (H : Heap) (locs : List Loc) (ls : Array Slot), cn + 6 * n ≤ 5000 → sn + 36 * n ≤ 60000 → F_law_L n xs L V T S hs Mo f y4 = some 1 → va_P g.1 az_cl (((az_ou g ob f :: az_wF g ax an au aw V T S hs) ++ az_cM g ad Mo)) H → va_D (fun q : Nat => s.heap.size ≤ q) (((az_ou g ob f :: az_wF g ax an au aw V T S hs) ++ az_cM g ad Mo)) → va_S (fun q : Nat => s.heap.size ≤ q) s.heap H locs → lv_has ls 7 [(0, .ref (b)), (1, .ref (ax 0)), (2, .ref (ad 0)), (3, .ref (ob)), (4, .int y4)] → W p l e room_1 s m #[Value.ref b] below meth c H locs cn sn (lw_Z below #[Value.ref b] s) (F0 m 23 ls [])) : ∀ (cn sn : Nat) (V T : az_St) (S : Nat → az_St) (hs : Nat → Int32) (Mo : az_St) (f : Nat → Int64) (y4 : Int32) (H : Heap) (locs : List Loc) (ls : Array Slot), cn + 6 * (n + 1) ≤ 5000 → sn + 36 * (n + 1) ≤ 60000 → ¬ ((Int32.ofNat L) - (4 : Int32) < y4) → az_in y4 L = true → F_law_C23 (fun V T S hs Mo f y4 => F_law_L n xs L V T S hs Mo f y4) xs L V T S hs Mo f y4 = some 1 → va_P g.1 az_cl (((az_ou g ob f :: az_wF g ax an au aw V T S hs) ++ az_cM g ad Mo)) H → va_D (fun q : Nat => s.heap.size ≤ q) (((az_ou g ob f :: az_wF g ax an au aw V T S hs) ++ az_cM g ad Mo)) → va_S (fun q : Nat => s.heap.size ≤ q) s.heap H locs → lv_has ls 7 [(0, .ref (b)), (1, .ref (ax 0)), (2, .ref (ad 0)), (3, .ref (ob)), (4, .int y4)] → W p l e room_1 s m #[Value.ref b] below meth c H locs cn sn (lw_Z below #[Value.ref b] s) (F0 m 1538 ls []) := by
  intro cn sn V T S hs Mo f y4 H locs ls hcn hsn c29 i35 h hP hD hS hl
  obtain ⟨hx, hb, hr, hml, hown, -, -, -, hlocks, -⟩ := id C0
  unfold F_law_C23 at h
  obtain ⟨A, eA⟩ : ∃ A : Nat → Prop, A = (fun q : Nat => s.heap.size ≤ q) := ⟨_, rfl⟩
  rw [← eA] at hbA hcx hA hD hS ih
  refine lv_aload_n hx hb dL_law_1538 rfl (lv_at hl 1 rfl) ?_
  refine lv_aload_n hx hb dL_law_1539 rfl (lv_at hl 0 rfl) ?_
  refine lv_iload hx hb dL_law_1540 (lv_at hl 4 rfl) ?_
  refine lv_iconst (v := (1 : Int32)) hx hb dL_law_1542 (by decide) ?_
  refine lv_iadd hx hb dL_law_1543 ?_
  obtain ⟨i1544, h⟩ := az_ite h
  refine va_sld hx hb hX hbl hbA hS (az_vin i1544) dL_law_1544 ?_
  refine lv_aload_n hx hb dL_law_1545 rfl (lv_at hl 3 rfl) ?_
  obtain ⟨o1546, hc1546, h⟩ := az_bnd h
  refine az_callLW (wr := az_cM g ad Mo) (As := [.ref (ax 0), .int (xs (y4 + (1 : Int32)).toNatClampNeg), .ref (ob)]) (rest := []) ⟨hx, hb, hml, hown, hts⟩ hl.1 (kL_expel l hst g sa ax an au aw ob V T S hs f (xs (y4 + (1 : Int32)).toNatClampNeg) o1546 hc1546) (vx_cwSW (hh := [(0, 9, 12, 19), (0, 9, 15, 21)]) 3 hts gL_law_L_expel rfl rfl rfl (by decide +kernel) ⟨(Nat.le_of_ble_eq_true rfl), (Nat.le_of_ble_eq_true rfl)⟩) rfl hK hcx hP hD hS hA (Nat.le_of_ble_eq_true rfl) dL_law_1546 ⟨by show _ ≤ 601024; omega, by show _ ≤ 7293034; omega⟩ rfl (fun H locs hP hD hS => ?_)
  have hP : va_P g.1 az_cl (((az_ou g ob o1546.2.1 :: az_wF g ax an au aw o1546.2.2.1 o1546.2.2.2.1 o1546.2.2.2.2.1 o1546.2.2.2.2.2) ++ az_cM g ad Mo)) _ := hP
  have hD : va_D A (((az_ou g ob o1546.2.1 :: az_wF g ax an au aw o1546.2.2.1 o1546.2.2.2.1 o1546.2.2.2.2.1 o1546.2.2.2.2.2) ++ az_cM g ad Mo)) := hD
  refine lv_istore (lv' := [(5, .int o1546.1), (0, .ref (b)), (1, .ref (ax 0)), (2, .ref (ad 0)), (3, .ref (ob)), (4, .int y4)]) hx hb dL_law_1549 hl (by decide) rfl (fun ls hl => ?_)
  refine lv_aload_n hx hb dL_law_1551 rfl (lv_at hl 3 rfl) ?_
  refine lv_aload_n hx hb dL_law_1552 rfl (lv_at hl 1 rfl) ?_
  refine lv_iload hx hb dL_law_1553 (lv_at hl 5 rfl) ?_
  refine lv_iconst (v := (1 : Int32)) hx hb dL_law_1555 (by decide) ?_
  refine lv_iadd hx hb dL_law_1556 ?_
  refine va_sld hx hb hX hbl hbA hS (az_vin i1544) dL_law_1557 ?_
  obtain ⟨o1558, hc1558, h⟩ := az_bnd h
  refine az_callPi (wr := (az_ou g ob o1546.2.1 :: az_wF g ax an au aw o1546.2.2.1 o1546.2.2.2.1 o1546.2.2.2.2.1 o1546.2.2.2.2.2)) (w2 := ((az_ou g ob o1546.2.1 :: az_wF g ax an au aw o1546.2.2.1 o1546.2.2.2.1 o1546.2.2.2.2.1 o1546.2.2.2.2.2) ++ az_cM g ad (va_up (va_up (va_up Mo 0 o1558.2.1) 1 o1558.2.2.1) 2 o1558.2.2.2))) (As := [.int (xs (y4 + (1 : Int32)).toNatClampNeg)]) (rest := []) ⟨hx, hb, hml, hown, hts⟩ hl.1 (kX7_expel l g ad Mo (xs (y4 + (1 : Int32)).toNatClampNeg) o1558 hc1558) (cwV 1 hts gL_law_X7_expel rfl rfl rfl (by decide +kernel) ⟨(Nat.le_of_ble_eq_true rfl), (Nat.le_of_ble_eq_true rfl)⟩) rfl hK hP hD hS hA List.perm_append_comm List.perm_append_comm 0 rfl rfl rfl (Nat.le_of_ble_eq_true rfl) dL_law_1558 ⟨by show _ ≤ 601024; omega, by show _ ≤ 7293034; omega⟩ rfl (fun H locs hP hD hS => ?_)
  have hP : va_P g.1 az_cl (((az_ou g ob o1546.2.1 :: az_wF g ax an au aw o1546.2.2.1 o1546.2.2.2.1 o1546.2.2.2.2.1 o1546.2.2.2.2.2) ++ az_cM g ad (va_up (va_up (va_up Mo 0 o1558.2.1) 1 o1558.2.2.1) 2 o1558.2.2.2))) _ := hP
  have hD : va_D A (((az_ou g ob o1546.2.1 :: az_wF g ax an au aw o1546.2.2.1 o1546.2.2.2.1 o1546.2.2.2.2.1 o1546.2.2.2.2.2) ++ az_cM g ad (va_up (va_up (va_up Mo 0 o1558.2.1) 1 o1558.2.2.1) 2 o1558.2.2.2))) := hD
  refine lv_istore (lv' := [(6, .int o1558.1), (5, .int o1546.1), (0, .ref (b)), (1, .ref (ax 0)), (2, .ref (ad 0)), (3, .ref (ob)), (4, .int y4)]) hx hb dL_law_1561 hl (by decide) rfl (fun ls hl => ?_)
  refine lv_aload_n hx hb dL_law_1563 rfl (lv_at hl 4 rfl) ?_
  obtain ⟨o1564, hc1564, h⟩ := az_bnd h
  refine az_callPi (wr := (az_ou g ob o1546.2.1 :: az_wF g ax an au aw o1546.2.2.1 o1546.2.2.2.1 o1546.2.2.2.2.1 o1546.2.2.2.2.2)) (w2 := ((az_ou g ob o1546.2.1 :: az_wF g ax an au aw o1546.2.2.1 o1546.2.2.2.1 o1546.2.2.2.2.1 o1546.2.2.2.2.2) ++ az_cM g ad (va_up (va_up (va_up Mo 0 o1558.2.1) 1 o1558.2.2.1) 2 o1558.2.2.2))) (As := []) (rest := []) ⟨hx, hb, hml, hown, hts⟩ hl.1 (kX7_thrown l g ad (va_up (va_up (va_up Mo 0 o1558.2.1) 1 o1558.2.2.1) 2 o1558.2.2.2)  o1564 hc1564) (cwV 0 hts gL_law_X7_thrown rfl rfl rfl (by decide +kernel) ⟨(Nat.le_of_ble_eq_true rfl), (Nat.le_of_ble_eq_true rfl)⟩) rfl hK hP hD hS hA List.perm_append_comm List.perm_append_comm 0 rfl rfl rfl (Nat.le_of_ble_eq_true rfl) dL_law_1564 ⟨by show _ ≤ 601024; omega, by show _ ≤ 7293034; omega⟩ rfl (fun H locs hP hD hS => ?_)
  have hP : va_P g.1 az_cl (((az_ou g ob o1546.2.1 :: az_wF g ax an au aw o1546.2.2.1 o1546.2.2.2.1 o1546.2.2.2.2.1 o1546.2.2.2.2.2) ++ az_cM g ad (va_up (va_up (va_up Mo 0 o1558.2.1) 1 o1558.2.2.1) 2 o1558.2.2.2))) _ := hP
  have hD : va_D A (((az_ou g ob o1546.2.1 :: az_wF g ax an au aw o1546.2.2.1 o1546.2.2.2.1 o1546.2.2.2.2.1 o1546.2.2.2.2.2) ++ az_cM g ad (va_up (va_up (va_up Mo 0 o1558.2.1) 1 o1558.2.2.1) 2 o1558.2.2.2))) := hD
  refine lv_iload hx hb dL_law_1567 (lv_at hl 1 rfl) ?_
  refine lv_icmp_eq (tgt := 1574) hx hb dL_law_1569 (by decide) (fun c1569 => ?_) (fun c1569 => ?_)
  · replace h := az_pos c1569 h
    refine lv_iload hx hb dL_law_1574 (lv_at hl 1 rfl) ?_
    refine lv_if_ne (tgt := 1591) hx hb dL_law_1576 (by decide) (fun c1576 => ?_) (fun c1576 => ?_)
    · replace h := az_neg c1576 h
      refine lv_goto (tgt := 2624) hx hb dL_law_1591 (by decide) ?_
      refine lv_iinc (v := y4 + (4 : Int32)) (lv' := [(4, .int (y4 + (4 : Int32))), (6, .int o1558.1), (5, .int o1546.1), (0, .ref (b)), (1, .ref (ax 0)), (2, .ref (ad 0)), (3, .ref (ob))]) hx hb dL_law_2624 hl (k := 6) rfl rfl (by decide) rfl (fun ls hl => ?_)
      refine lv_goto (tgt := 23) hx hb dL_law_2627 (by decide) ?_
      have hP : va_P g.1 az_cl (((az_ou g ob o1546.2.1 :: az_wF g ax an au aw o1546.2.2.1 o1546.2.2.2.1 o1546.2.2.2.2.1 o1546.2.2.2.2.2) ++ az_cM g ad (va_up (va_up (va_up Mo 0 o1558.2.1) 1 o1558.2.2.1) 2 o1558.2.2.2))) _ := hP
      have hD : va_D A (((az_ou g ob o1546.2.1 :: az_wF g ax an au aw o1546.2.2.1 o1546.2.2.2.1 o1546.2.2.2.2.1 o1546.2.2.2.2.2) ++ az_cM g ad (va_up (va_up (va_up Mo 0 o1558.2.1) 1 o1558.2.2.1) 2 o1558.2.2.2))) := hD
      exact ih _ _ _ _ _ _ _ _ _ _ _ _ (by omega) (by omega) h hP hD hS (lv_sub hl [3, 4, 5, 6, 0] rfl)
    · replace h := az_pos c1576 h
      refine lv_aload_n hx hb dL_law_1579 rfl (lv_at hl 5 rfl) ?_
      refine lv_iconst (v := (0 : Int32)) hx hb dL_law_1580 (by decide) ?_
      refine va_lald (D := g.1) (f := o1546.2.1) hx hb hK hP 0 2 rfl rfl (az_vin (by decide +kernel)) dL_law_1581 ?_
      refine lv_iload hx hb dL_law_1582 (lv_at hl 0 rfl) ?_
      refine lv_i2l (v := o1558.1.toInt64) hx hb dL_law_1584 rfl ?_
      refine W.lcmp hx hb dL_law_1585 ?_
      refine lv_if_eq (tgt := 1591) hx hb dL_law_1586 (by decide) (fun c1586 => ?_) (fun c1586 => ?_)
      · replace h := az_pos c1586 h
        refine lv_goto (tgt := 2624) hx hb dL_law_1591 (by decide) ?_
        refine lv_iinc (v := y4 + (4 : Int32)) (lv' := [(4, .int (y4 + (4 : Int32))), (6, .int o1558.1), (5, .int o1546.1), (0, .ref (b)), (1, .ref (ax 0)), (2, .ref (ad 0)), (3, .ref (ob))]) hx hb dL_law_2624 hl (k := 6) rfl rfl (by decide) rfl (fun ls hl => ?_)
        refine lv_goto (tgt := 23) hx hb dL_law_2627 (by decide) ?_
        have hP : va_P g.1 az_cl (((az_ou g ob o1546.2.1 :: az_wF g ax an au aw o1546.2.2.1 o1546.2.2.2.1 o1546.2.2.2.2.1 o1546.2.2.2.2.2) ++ az_cM g ad (va_up (va_up (va_up Mo 0 o1558.2.1) 1 o1558.2.2.1) 2 o1558.2.2.2))) _ := hP
        have hD : va_D A (((az_ou g ob o1546.2.1 :: az_wF g ax an au aw o1546.2.2.1 o1546.2.2.2.1 o1546.2.2.2.2.1 o1546.2.2.2.2.2) ++ az_cM g ad (va_up (va_up (va_up Mo 0 o1558.2.1) 1 o1558.2.2.1) 2 o1558.2.2.2))) := hD
        exact ih _ _ _ _ _ _ _ _ _ _ _ _ (by omega) (by omega) h hP hD hS (lv_sub hl [3, 4, 5, 6, 0] rfl)
      · replace h := az_neg c1586 h
        refine lv_iconst (v := (0 : Int32)) hx hb dL_law_1589 (by decide) ?_
        exact absurd (Option.some.inj h) (by decide)
  · replace h := az_neg c1569 h
    refine lv_iconst (v := (0 : Int32)) hx hb dL_law_1572 (by decide) ?_
    exact absurd (Option.some.inj h) (by decide)
set_option maxHeartbeats 8000000 in
set_option maxRecDepth 100000 in
theorem LWC24 {p : Program} {e : Env} {s : State} {m : MethodId} {below : List Frame} {meth : Method} {c : Code} (l : Launch) (hst : l.stackTraces = false) {b L : Nat} {xs : Nat → Int32} (hL : L ≤ 2048) (C0 : lw_At p s m meth c b L xs) (g : az_G) (sa : Nat → Nat) (ax an au : Nat → Nat) (aw : Nat → Nat → Nat) (ob : Nat) (ad : Nat → Nat) (hX : va_X b L xs s s.heap) (hbl : b < s.heap.size) (hbA : ¬ (fun q : Nat => s.heap.size ≤ q) b) (hcx : az_cx sa (fun q : Nat => s.heap.size ≤ q) s s.heap) (hA : ∀ q : Nat, s.heap.size ≤ q → (fun q : Nat => s.heap.size ≤ q) q) (hK : va_K g.1 az_cl (az_tys g) s) (hts : ∀ w ∈ wsL_law, w.before #[Value.ref b] s = true) (n : Nat) (ih : ∀ (cn sn : Nat) (V T : az_St) (S : Nat → az_St) (hs : Nat → Int32) (Mo : az_St) (f : Nat → Int64) (y4 : Int32) (H : Heap) (locs : List Loc) (ls : Array Slot), cn + 6 * n ≤ 5000 → sn + 36 * n ≤ 60000 → F_law_L n xs L V T S hs Mo f y4 = some 1 → va_P g.1 az_cl (((az_ou g ob f :: az_wF g ax an au aw V T S hs) ++ az_cM g ad Mo)) H → va_D (fun q : Nat => s.heap.size ≤ q) (((az_ou g ob f :: az_wF g ax an au aw V T S hs) ++ az_cM g ad Mo)) → va_S (fun q : Nat => s.heap.size ≤ q) s.heap H locs → lv_has ls 7 [(0, .ref (b)), (1, .ref (ax 0)), (2, .ref (ad 0)), (3, .ref (ob)), (4, .int y4)] → W p l e room_1 s m #[Value.ref b] below meth c H locs cn sn (lw_Z below #[Value.ref b] s) (F0 m 23 ls [])) : ∀ (cn sn : Nat) (V T : az_St) (S : Nat → az_St) (hs : Nat → Int32) (Mo : az_St) (f : Nat → Int64) (y4 : Int32) (H : Heap) (locs : List Loc) (ls : Array Slot), cn + 6 * (n + 1) ≤ 5000 → sn + 36 * (n + 1) ≤ 60000 → ¬ ((Int32.ofNat L) - (4 : Int32) < y4) → az_in y4 L = true → F_law_C24 (fun V T S hs Mo f y4 => F_law_L n xs L V T S hs Mo f y4) xs L V T S hs Mo f y4 = some 1 → va_P g.1 az_cl (((az_ou g ob f :: az_wF g ax an au aw V T S hs) ++ az_cM g ad Mo)) H → va_D (fun q : Nat => s.heap.size ≤ q) (((az_ou g ob f :: az_wF g ax an au aw V T S hs) ++ az_cM g ad Mo)) → va_S (fun q : Nat => s.heap.size ≤ q) s.heap H locs → lv_has ls 7 [(0, .ref (b)), (1, .ref (ax 0)), (2, .ref (ad 0)), (3, .ref (ob)), (4, .int y4)] → W p l e room_1 s m #[Value.ref b] below meth c H locs cn sn (lw_Z below #[Value.ref b] s) (F0 m 1594 ls []) := by
  intro cn sn V T S hs Mo f y4 H locs ls hcn hsn c29 i35 h hP hD hS hl
  obtain ⟨hx, hb, hr, hml, hown, -, -, -, hlocks, -⟩ := id C0
  unfold F_law_C24 at h
  obtain ⟨A, eA⟩ : ∃ A : Nat → Prop, A = (fun q : Nat => s.heap.size ≤ q) := ⟨_, rfl⟩
  rw [← eA] at hbA hcx hA hD hS ih
  refine lv_aload_n hx hb dL_law_1594 rfl (lv_at hl 1 rfl) ?_
  refine lv_aload_n hx hb dL_law_1595 rfl (lv_at hl 0 rfl) ?_
  refine lv_iload hx hb dL_law_1596 (lv_at hl 4 rfl) ?_
  refine lv_iconst (v := (1 : Int32)) hx hb dL_law_1598 (by decide) ?_
  refine lv_iadd hx hb dL_law_1599 ?_
  obtain ⟨i1600, h⟩ := az_ite h
  refine va_sld hx hb hX hbl hbA hS (az_vin i1600) dL_law_1600 ?_
  refine lv_aload_n hx hb dL_law_1601 rfl (lv_at hl 3 rfl) ?_
  obtain ⟨o1602, hc1602, h⟩ := az_bnd h
  refine az_callLW (wr := az_cM g ad Mo) (As := [.ref (ax 0), .int (xs (y4 + (1 : Int32)).toNatClampNeg), .ref (ob)]) (rest := []) ⟨hx, hb, hml, hown, hts⟩ hl.1 (kL_reclaimableWithout l hst g sa ax an au aw ob V T S hs f (xs (y4 + (1 : Int32)).toNatClampNeg) o1602 hc1602) (vx_cwSW (hh := [(0, 9, 12, 19)]) 3 hts gL_law_L_reclaimableWithout rfl rfl rfl (by decide +kernel) ⟨(Nat.le_of_ble_eq_true rfl), (Nat.le_of_ble_eq_true rfl)⟩) rfl hK hcx hP hD hS hA (Nat.le_of_ble_eq_true rfl) dL_law_1602 ⟨by show _ ≤ 601024; omega, by show _ ≤ 7293034; omega⟩ rfl (fun H locs hP hD hS => ?_)
  have hP : va_P g.1 az_cl (((az_ou g ob o1602.2.1 :: az_wF g ax an au aw o1602.2.2.1 o1602.2.2.2.1 o1602.2.2.2.2.1 o1602.2.2.2.2.2) ++ az_cM g ad Mo)) _ := hP
  have hD : va_D A (((az_ou g ob o1602.2.1 :: az_wF g ax an au aw o1602.2.2.1 o1602.2.2.2.1 o1602.2.2.2.2.1 o1602.2.2.2.2.2) ++ az_cM g ad Mo)) := hD
  refine lv_istore (lv' := [(5, .int o1602.1), (0, .ref (b)), (1, .ref (ax 0)), (2, .ref (ad 0)), (3, .ref (ob)), (4, .int y4)]) hx hb dL_law_1605 hl (by decide) rfl (fun ls hl => ?_)
  refine lv_aload_n hx hb dL_law_1607 rfl (lv_at hl 3 rfl) ?_
  refine lv_aload_n hx hb dL_law_1608 rfl (lv_at hl 1 rfl) ?_
  refine lv_iload hx hb dL_law_1609 (lv_at hl 5 rfl) ?_
  refine lv_iconst (v := (1 : Int32)) hx hb dL_law_1611 (by decide) ?_
  refine lv_iadd hx hb dL_law_1612 ?_
  refine va_sld hx hb hX hbl hbA hS (az_vin i1600) dL_law_1613 ?_
  obtain ⟨o1614, hc1614, h⟩ := az_bnd h
  refine az_callPi (wr := (az_ou g ob o1602.2.1 :: az_wF g ax an au aw o1602.2.2.1 o1602.2.2.2.1 o1602.2.2.2.2.1 o1602.2.2.2.2.2)) (w2 := ((az_ou g ob o1602.2.1 :: az_wF g ax an au aw o1602.2.2.1 o1602.2.2.2.1 o1602.2.2.2.2.1 o1602.2.2.2.2.2) ++ az_cM g ad (va_up Mo 2 o1614.2))) (As := [.int (xs (y4 + (1 : Int32)).toNatClampNeg)]) (rest := []) ⟨hx, hb, hml, hown, hts⟩ hl.1 (kX7_reclaimableWithout l g ad Mo (xs (y4 + (1 : Int32)).toNatClampNeg) o1614 hc1614) (cwV 1 hts gL_law_X7_reclaimableWithout rfl rfl rfl (by decide +kernel) ⟨(Nat.le_of_ble_eq_true rfl), (Nat.le_of_ble_eq_true rfl)⟩) rfl hK hP hD hS hA List.perm_append_comm List.perm_append_comm 0 rfl rfl rfl (Nat.le_of_ble_eq_true rfl) dL_law_1614 ⟨by show _ ≤ 601024; omega, by show _ ≤ 7293034; omega⟩ rfl (fun H locs hP hD hS => ?_)
  have hP : va_P g.1 az_cl (((az_ou g ob o1602.2.1 :: az_wF g ax an au aw o1602.2.2.1 o1602.2.2.2.1 o1602.2.2.2.2.1 o1602.2.2.2.2.2) ++ az_cM g ad (va_up Mo 2 o1614.2))) _ := hP
  have hD : va_D A (((az_ou g ob o1602.2.1 :: az_wF g ax an au aw o1602.2.2.1 o1602.2.2.2.1 o1602.2.2.2.2.1 o1602.2.2.2.2.2) ++ az_cM g ad (va_up Mo 2 o1614.2))) := hD
  refine lv_istore (lv' := [(6, .int o1614.1), (5, .int o1602.1), (0, .ref (b)), (1, .ref (ax 0)), (2, .ref (ad 0)), (3, .ref (ob)), (4, .int y4)]) hx hb dL_law_1617 hl (by decide) rfl (fun ls hl => ?_)
  refine lv_aload_n hx hb dL_law_1619 rfl (lv_at hl 4 rfl) ?_
  obtain ⟨o1620, hc1620, h⟩ := az_bnd h
  refine az_callPi (wr := (az_ou g ob o1602.2.1 :: az_wF g ax an au aw o1602.2.2.1 o1602.2.2.2.1 o1602.2.2.2.2.1 o1602.2.2.2.2.2)) (w2 := ((az_ou g ob o1602.2.1 :: az_wF g ax an au aw o1602.2.2.1 o1602.2.2.2.1 o1602.2.2.2.2.1 o1602.2.2.2.2.2) ++ az_cM g ad (va_up Mo 2 o1614.2))) (As := []) (rest := []) ⟨hx, hb, hml, hown, hts⟩ hl.1 (kX7_thrown l g ad (va_up Mo 2 o1614.2)  o1620 hc1620) (cwV 0 hts gL_law_X7_thrown rfl rfl rfl (by decide +kernel) ⟨(Nat.le_of_ble_eq_true rfl), (Nat.le_of_ble_eq_true rfl)⟩) rfl hK hP hD hS hA List.perm_append_comm List.perm_append_comm 0 rfl rfl rfl (Nat.le_of_ble_eq_true rfl) dL_law_1620 ⟨by show _ ≤ 601024; omega, by show _ ≤ 7293034; omega⟩ rfl (fun H locs hP hD hS => ?_)
  have hP : va_P g.1 az_cl (((az_ou g ob o1602.2.1 :: az_wF g ax an au aw o1602.2.2.1 o1602.2.2.2.1 o1602.2.2.2.2.1 o1602.2.2.2.2.2) ++ az_cM g ad (va_up Mo 2 o1614.2))) _ := hP
  have hD : va_D A (((az_ou g ob o1602.2.1 :: az_wF g ax an au aw o1602.2.2.1 o1602.2.2.2.1 o1602.2.2.2.2.1 o1602.2.2.2.2.2) ++ az_cM g ad (va_up Mo 2 o1614.2))) := hD
  refine lv_iload hx hb dL_law_1623 (lv_at hl 1 rfl) ?_
  refine lv_icmp_eq (tgt := 1630) hx hb dL_law_1625 (by decide) (fun c1625 => ?_) (fun c1625 => ?_)
  · replace h := az_pos c1625 h
    refine lv_iload hx hb dL_law_1630 (lv_at hl 1 rfl) ?_
    refine lv_if_ne (tgt := 1647) hx hb dL_law_1632 (by decide) (fun c1632 => ?_) (fun c1632 => ?_)
    · replace h := az_neg c1632 h
      refine lv_goto (tgt := 2624) hx hb dL_law_1647 (by decide) ?_
      refine lv_iinc (v := y4 + (4 : Int32)) (lv' := [(4, .int (y4 + (4 : Int32))), (6, .int o1614.1), (5, .int o1602.1), (0, .ref (b)), (1, .ref (ax 0)), (2, .ref (ad 0)), (3, .ref (ob))]) hx hb dL_law_2624 hl (k := 6) rfl rfl (by decide) rfl (fun ls hl => ?_)
      refine lv_goto (tgt := 23) hx hb dL_law_2627 (by decide) ?_
      have hP : va_P g.1 az_cl (((az_ou g ob o1602.2.1 :: az_wF g ax an au aw o1602.2.2.1 o1602.2.2.2.1 o1602.2.2.2.2.1 o1602.2.2.2.2.2) ++ az_cM g ad (va_up Mo 2 o1614.2))) _ := hP
      have hD : va_D A (((az_ou g ob o1602.2.1 :: az_wF g ax an au aw o1602.2.2.1 o1602.2.2.2.1 o1602.2.2.2.2.1 o1602.2.2.2.2.2) ++ az_cM g ad (va_up Mo 2 o1614.2))) := hD
      exact ih _ _ _ _ _ _ _ _ _ _ _ _ (by omega) (by omega) h hP hD hS (lv_sub hl [3, 4, 5, 6, 0] rfl)
    · replace h := az_pos c1632 h
      refine lv_aload_n hx hb dL_law_1635 rfl (lv_at hl 5 rfl) ?_
      refine lv_iconst (v := (0 : Int32)) hx hb dL_law_1636 (by decide) ?_
      refine va_lald (D := g.1) (f := o1602.2.1) hx hb hK hP 0 2 rfl rfl (az_vin (by decide +kernel)) dL_law_1637 ?_
      refine lv_iload hx hb dL_law_1638 (lv_at hl 0 rfl) ?_
      refine lv_i2l (v := o1614.1.toInt64) hx hb dL_law_1640 rfl ?_
      refine W.lcmp hx hb dL_law_1641 ?_
      refine lv_if_eq (tgt := 1647) hx hb dL_law_1642 (by decide) (fun c1642 => ?_) (fun c1642 => ?_)
      · replace h := az_pos c1642 h
        refine lv_goto (tgt := 2624) hx hb dL_law_1647 (by decide) ?_
        refine lv_iinc (v := y4 + (4 : Int32)) (lv' := [(4, .int (y4 + (4 : Int32))), (6, .int o1614.1), (5, .int o1602.1), (0, .ref (b)), (1, .ref (ax 0)), (2, .ref (ad 0)), (3, .ref (ob))]) hx hb dL_law_2624 hl (k := 6) rfl rfl (by decide) rfl (fun ls hl => ?_)
        refine lv_goto (tgt := 23) hx hb dL_law_2627 (by decide) ?_
        have hP : va_P g.1 az_cl (((az_ou g ob o1602.2.1 :: az_wF g ax an au aw o1602.2.2.1 o1602.2.2.2.1 o1602.2.2.2.2.1 o1602.2.2.2.2.2) ++ az_cM g ad (va_up Mo 2 o1614.2))) _ := hP
        have hD : va_D A (((az_ou g ob o1602.2.1 :: az_wF g ax an au aw o1602.2.2.1 o1602.2.2.2.1 o1602.2.2.2.2.1 o1602.2.2.2.2.2) ++ az_cM g ad (va_up Mo 2 o1614.2))) := hD
        exact ih _ _ _ _ _ _ _ _ _ _ _ _ (by omega) (by omega) h hP hD hS (lv_sub hl [3, 4, 5, 6, 0] rfl)
      · replace h := az_neg c1642 h
        refine lv_iconst (v := (0 : Int32)) hx hb dL_law_1645 (by decide) ?_
        exact absurd (Option.some.inj h) (by decide)
  · replace h := az_neg c1625 h
    refine lv_iconst (v := (0 : Int32)) hx hb dL_law_1628 (by decide) ?_
    exact absurd (Option.some.inj h) (by decide)
set_option maxHeartbeats 8000000 in
set_option maxRecDepth 100000 in
theorem LWC25 {p : Program} {e : Env} {s : State} {m : MethodId} {below : List Frame} {meth : Method} {c : Code} (l : Launch) (hst : l.stackTraces = false) {b L : Nat} {xs : Nat → Int32} (hL : L ≤ 2048) (C0 : lw_At p s m meth c b L xs) (g : az_G) (sa : Nat → Nat) (ax an au : Nat → Nat) (aw : Nat → Nat → Nat) (ob : Nat) (ad : Nat → Nat) (hX : va_X b L xs s s.heap) (hbl : b < s.heap.size) (hbA : ¬ (fun q : Nat => s.heap.size ≤ q) b) (hcx : az_cx sa (fun q : Nat => s.heap.size ≤ q) s s.heap) (hA : ∀ q : Nat, s.heap.size ≤ q → (fun q : Nat => s.heap.size ≤ q) q) (hK : va_K g.1 az_cl (az_tys g) s) (hts : ∀ w ∈ wsL_law, w.before #[Value.ref b] s = true) (n : Nat) (ih : ∀ (cn sn : Nat) (V T : az_St) (S : Nat → az_St) (hs : Nat → Int32) (Mo : az_St) (f : Nat → Int64) (y4 : Int32) (H : Heap) (locs : List Loc) (ls : Array Slot), cn + 6 * n ≤ 5000 → sn + 36 * n ≤ 60000 → F_law_L n xs L V T S hs Mo f y4 = some 1 → va_P g.1 az_cl (((az_ou g ob f :: az_wF g ax an au aw V T S hs) ++ az_cM g ad Mo)) H → va_D (fun q : Nat => s.heap.size ≤ q) (((az_ou g ob f :: az_wF g ax an au aw V T S hs) ++ az_cM g ad Mo)) → va_S (fun q : Nat => s.heap.size ≤ q) s.heap H locs → lv_has ls 7 [(0, .ref (b)), (1, .ref (ax 0)), (2, .ref (ad 0)), (3, .ref (ob)), (4, .int y4)] → W p l e room_1 s m #[Value.ref b] below meth c H locs cn sn (lw_Z below #[Value.ref b] s) (F0 m 23 ls [])) : ∀ (cn sn : Nat) (V T : az_St) (S : Nat → az_St) (hs : Nat → Int32) (Mo : az_St) (f : Nat → Int64) (y4 : Int32) (H : Heap) (locs : List Loc) (ls : Array Slot), cn + 6 * (n + 1) ≤ 5000 → sn + 36 * (n + 1) ≤ 60000 → ¬ ((Int32.ofNat L) - (4 : Int32) < y4) → az_in y4 L = true → F_law_C25 (fun V T S hs Mo f y4 => F_law_L n xs L V T S hs Mo f y4) xs L V T S hs Mo f y4 = some 1 → va_P g.1 az_cl (((az_ou g ob f :: az_wF g ax an au aw V T S hs) ++ az_cM g ad Mo)) H → va_D (fun q : Nat => s.heap.size ≤ q) (((az_ou g ob f :: az_wF g ax an au aw V T S hs) ++ az_cM g ad Mo)) → va_S (fun q : Nat => s.heap.size ≤ q) s.heap H locs → lv_has ls 7 [(0, .ref (b)), (1, .ref (ax 0)), (2, .ref (ad 0)), (3, .ref (ob)), (4, .int y4)] → W p l e room_1 s m #[Value.ref b] below meth c H locs cn sn (lw_Z below #[Value.ref b] s) (F0 m 1650 ls []) := by
  intro cn sn V T S hs Mo f y4 H locs ls hcn hsn c29 i35 h hP hD hS hl
  obtain ⟨hx, hb, hr, hml, hown, -, -, -, hlocks, -⟩ := id C0
  unfold F_law_C25 at h
  obtain ⟨A, eA⟩ : ∃ A : Nat → Prop, A = (fun q : Nat => s.heap.size ≤ q) := ⟨_, rfl⟩
  rw [← eA] at hbA hcx hA hD hS ih
  refine lv_aload_n hx hb dL_law_1650 rfl (lv_at hl 1 rfl) ?_
  obtain ⟨o1651, hc1651, h⟩ := az_bnd h
  refine az_callPi (w2 := ((az_ou g ob f :: az_wF g ax an au aw V T S hs) ++ az_cM g ad Mo)) (As := []) (rest := []) ⟨hx, hb, hml, hown, hts⟩ hl.1 (kX6_costliestReader l g ax an au (az_cV g au T ++ az_cH g ax aw S hs) V  o1651 hc1651) (cwV 0 hts gL_law_X6_costliestReader rfl rfl rfl (by decide +kernel) ⟨(Nat.le_of_ble_eq_true rfl), (Nat.le_of_ble_eq_true rfl)⟩) rfl hK hP hD hS hA (az_pm [az_ou g ob f] (az_wF g ax an au aw V T S hs) (az_cM g ad Mo)) (az_pm [az_ou g ob f] (az_wF g ax an au aw V T S hs) (az_cM g ad Mo)).symm 0 rfl rfl rfl (Nat.le_of_ble_eq_true rfl) dL_law_1651 ⟨by show _ ≤ 601024; omega, by show _ ≤ 7293034; omega⟩ rfl (fun H locs hP hD hS => ?_)
  have hP : va_P g.1 az_cl (((az_ou g ob f :: az_wF g ax an au aw V T S hs) ++ az_cM g ad Mo)) _ := hP
  have hD : va_D A (((az_ou g ob f :: az_wF g ax an au aw V T S hs) ++ az_cM g ad Mo)) := hD
  refine lv_aload_n hx hb dL_law_1654 rfl (lv_at hl 2 rfl) ?_
  obtain ⟨o1655, hc1655, h⟩ := az_bnd h
  refine az_callPi (wr := (az_ou g ob f :: az_wF g ax an au aw V T S hs)) (w2 := ((az_ou g ob f :: az_wF g ax an au aw V T S hs) ++ az_cM g ad (va_up Mo 2 o1655.2))) (As := []) (rest := [.int o1651]) ⟨hx, hb, hml, hown, hts⟩ hl.1 (kX7_costliestReader l g ad Mo  o1655 hc1655) (cwV 0 hts gL_law_X7_costliestReader rfl rfl rfl (by decide +kernel) ⟨(Nat.le_of_ble_eq_true rfl), (Nat.le_of_ble_eq_true rfl)⟩) rfl hK hP hD hS hA List.perm_append_comm List.perm_append_comm 0 rfl rfl rfl (Nat.le_of_ble_eq_true rfl) dL_law_1655 ⟨by show _ ≤ 601024; omega, by show _ ≤ 7293034; omega⟩ rfl (fun H locs hP hD hS => ?_)
  have hP : va_P g.1 az_cl (((az_ou g ob f :: az_wF g ax an au aw V T S hs) ++ az_cM g ad (va_up Mo 2 o1655.2))) _ := hP
  have hD : va_D A (((az_ou g ob f :: az_wF g ax an au aw V T S hs) ++ az_cM g ad (va_up Mo 2 o1655.2))) := hD
  refine lv_icmp_eq (tgt := 2624) hx hb dL_law_1658 (by decide) (fun c1658 => ?_) (fun c1658 => ?_)
  · replace h := az_pos c1658 h
    refine lv_iinc (v := y4 + (4 : Int32)) (lv' := [(4, .int (y4 + (4 : Int32))), (0, .ref (b)), (1, .ref (ax 0)), (2, .ref (ad 0)), (3, .ref (ob))]) hx hb dL_law_2624 hl (k := 4) rfl rfl (by decide) rfl (fun ls hl => ?_)
    refine lv_goto (tgt := 23) hx hb dL_law_2627 (by decide) ?_
    have hP : va_P g.1 az_cl (((az_ou g ob f :: az_wF g ax an au aw V T S hs) ++ az_cM g ad (va_up Mo 2 o1655.2))) _ := hP
    have hD : va_D A (((az_ou g ob f :: az_wF g ax an au aw V T S hs) ++ az_cM g ad (va_up Mo 2 o1655.2))) := hD
    exact ih _ _ _ _ _ _ _ _ _ _ _ _ (by omega) (by omega) h hP hD hS (lv_sub hl [1, 2, 3, 4, 0] rfl)
  · replace h := az_neg c1658 h
    refine lv_iconst (v := (0 : Int32)) hx hb dL_law_1661 (by decide) ?_
    exact absurd (Option.some.inj h) (by decide)
set_option maxHeartbeats 8000000 in
set_option maxRecDepth 100000 in
theorem LWC26 {p : Program} {e : Env} {s : State} {m : MethodId} {below : List Frame} {meth : Method} {c : Code} (l : Launch) (hst : l.stackTraces = false) {b L : Nat} {xs : Nat → Int32} (hL : L ≤ 2048) (C0 : lw_At p s m meth c b L xs) (g : az_G) (sa : Nat → Nat) (ax an au : Nat → Nat) (aw : Nat → Nat → Nat) (ob : Nat) (ad : Nat → Nat) (hX : va_X b L xs s s.heap) (hbl : b < s.heap.size) (hbA : ¬ (fun q : Nat => s.heap.size ≤ q) b) (hcx : az_cx sa (fun q : Nat => s.heap.size ≤ q) s s.heap) (hA : ∀ q : Nat, s.heap.size ≤ q → (fun q : Nat => s.heap.size ≤ q) q) (hK : va_K g.1 az_cl (az_tys g) s) (hts : ∀ w ∈ wsL_law, w.before #[Value.ref b] s = true) (n : Nat) (ih : ∀ (cn sn : Nat) (V T : az_St) (S : Nat → az_St) (hs : Nat → Int32) (Mo : az_St) (f : Nat → Int64) (y4 : Int32) (H : Heap) (locs : List Loc) (ls : Array Slot), cn + 6 * n ≤ 5000 → sn + 36 * n ≤ 60000 → F_law_L n xs L V T S hs Mo f y4 = some 1 → va_P g.1 az_cl (((az_ou g ob f :: az_wF g ax an au aw V T S hs) ++ az_cM g ad Mo)) H → va_D (fun q : Nat => s.heap.size ≤ q) (((az_ou g ob f :: az_wF g ax an au aw V T S hs) ++ az_cM g ad Mo)) → va_S (fun q : Nat => s.heap.size ≤ q) s.heap H locs → lv_has ls 7 [(0, .ref (b)), (1, .ref (ax 0)), (2, .ref (ad 0)), (3, .ref (ob)), (4, .int y4)] → W p l e room_1 s m #[Value.ref b] below meth c H locs cn sn (lw_Z below #[Value.ref b] s) (F0 m 23 ls [])) : ∀ (cn sn : Nat) (V T : az_St) (S : Nat → az_St) (hs : Nat → Int32) (Mo : az_St) (f : Nat → Int64) (y4 : Int32) (H : Heap) (locs : List Loc) (ls : Array Slot), cn + 6 * (n + 1) ≤ 5000 → sn + 36 * (n + 1) ≤ 60000 → ¬ ((Int32.ofNat L) - (4 : Int32) < y4) → az_in y4 L = true → F_law_C26 (fun V T S hs Mo f y4 => F_law_L n xs L V T S hs Mo f y4) xs L V T S hs Mo f y4 = some 1 → va_P g.1 az_cl (((az_ou g ob f :: az_wF g ax an au aw V T S hs) ++ az_cM g ad Mo)) H → va_D (fun q : Nat => s.heap.size ≤ q) (((az_ou g ob f :: az_wF g ax an au aw V T S hs) ++ az_cM g ad Mo)) → va_S (fun q : Nat => s.heap.size ≤ q) s.heap H locs → lv_has ls 7 [(0, .ref (b)), (1, .ref (ax 0)), (2, .ref (ad 0)), (3, .ref (ob)), (4, .int y4)] → W p l e room_1 s m #[Value.ref b] below meth c H locs cn sn (lw_Z below #[Value.ref b] s) (F0 m 1663 ls []) := by
  intro cn sn V T S hs Mo f y4 H locs ls hcn hsn c29 i35 h hP hD hS hl
  obtain ⟨hx, hb, hr, hml, hown, -, -, -, hlocks, -⟩ := id C0
  unfold F_law_C26 at h
  obtain ⟨A, eA⟩ : ∃ A : Nat → Prop, A = (fun q : Nat => s.heap.size ≤ q) := ⟨_, rfl⟩
  rw [← eA] at hbA hcx hA hD hS ih
  refine lv_aload_n hx hb dL_law_1663 rfl (lv_at hl 1 rfl) ?_
  refine lv_aload_n hx hb dL_law_1664 rfl (lv_at hl 3 rfl) ?_
  obtain ⟨o1665, hc1665, h⟩ := az_bnd h
  refine az_callLW (wr := az_cM g ad Mo) (As := [.ref (ax 0), .ref (ob)]) (rest := []) ⟨hx, hb, hml, hown, hts⟩ hl.1 (kL_advance l hst g sa ax an au aw ob V T S hs f  o1665 hc1665) (vx_cwSW (hh := [(0, 8, 11, 21)]) 2 hts gL_law_L_advance rfl rfl rfl (by decide +kernel) ⟨(Nat.le_of_ble_eq_true rfl), (Nat.le_of_ble_eq_true rfl)⟩) rfl hK hcx hP hD hS hA (Nat.le_of_ble_eq_true rfl) dL_law_1665 ⟨by show _ ≤ 601024; omega, by show _ ≤ 7293034; omega⟩ rfl (fun H locs hP hD hS => ?_)
  have hP : va_P g.1 az_cl (((az_ou g ob o1665.2.1 :: az_wF g ax an au aw o1665.2.2.1 o1665.2.2.2.1 o1665.2.2.2.2.1 o1665.2.2.2.2.2) ++ az_cM g ad Mo)) _ := hP
  have hD : va_D A (((az_ou g ob o1665.2.1 :: az_wF g ax an au aw o1665.2.2.1 o1665.2.2.2.1 o1665.2.2.2.2.1 o1665.2.2.2.2.2) ++ az_cM g ad Mo)) := hD
  refine lv_istore (lv' := [(5, .int o1665.1), (0, .ref (b)), (1, .ref (ax 0)), (2, .ref (ad 0)), (3, .ref (ob)), (4, .int y4)]) hx hb dL_law_1668 hl (by decide) rfl (fun ls hl => ?_)
  refine lv_aload_n hx hb dL_law_1670 rfl (lv_at hl 3 rfl) ?_
  obtain ⟨o1671, hc1671, h⟩ := az_bnd h
  refine az_callPi (wr := (az_ou g ob o1665.2.1 :: az_wF g ax an au aw o1665.2.2.1 o1665.2.2.2.1 o1665.2.2.2.2.1 o1665.2.2.2.2.2)) (w2 := ((az_ou g ob o1665.2.1 :: az_wF g ax an au aw o1665.2.2.1 o1665.2.2.2.1 o1665.2.2.2.2.1 o1665.2.2.2.2.2) ++ az_cM g ad (va_up (va_up (va_up Mo 0 o1671.2.1) 1 o1671.2.2.1) 2 o1671.2.2.2))) (As := []) (rest := []) ⟨hx, hb, hml, hown, hts⟩ hl.1 (kX7_advance l g ad Mo  o1671 hc1671) (cwV 0 hts gL_law_X7_advance rfl rfl rfl (by decide +kernel) ⟨(Nat.le_of_ble_eq_true rfl), (Nat.le_of_ble_eq_true rfl)⟩) rfl hK hP hD hS hA List.perm_append_comm List.perm_append_comm 0 rfl rfl rfl (Nat.le_of_ble_eq_true rfl) dL_law_1671 ⟨by show _ ≤ 601024; omega, by show _ ≤ 7293034; omega⟩ rfl (fun H locs hP hD hS => ?_)
  have hP : va_P g.1 az_cl (((az_ou g ob o1665.2.1 :: az_wF g ax an au aw o1665.2.2.1 o1665.2.2.2.1 o1665.2.2.2.2.1 o1665.2.2.2.2.2) ++ az_cM g ad (va_up (va_up (va_up Mo 0 o1671.2.1) 1 o1671.2.2.1) 2 o1671.2.2.2))) _ := hP
  have hD : va_D A (((az_ou g ob o1665.2.1 :: az_wF g ax an au aw o1665.2.2.1 o1665.2.2.2.1 o1665.2.2.2.2.1 o1665.2.2.2.2.2) ++ az_cM g ad (va_up (va_up (va_up Mo 0 o1671.2.1) 1 o1671.2.2.1) 2 o1671.2.2.2))) := hD
  refine lv_istore (lv' := [(6, .int o1671.1), (5, .int o1665.1), (0, .ref (b)), (1, .ref (ax 0)), (2, .ref (ad 0)), (3, .ref (ob)), (4, .int y4)]) hx hb dL_law_1674 hl (by decide) rfl (fun ls hl => ?_)
  refine lv_aload_n hx hb dL_law_1676 rfl (lv_at hl 4 rfl) ?_
  obtain ⟨o1677, hc1677, h⟩ := az_bnd h
  refine az_callPi (wr := (az_ou g ob o1665.2.1 :: az_wF g ax an au aw o1665.2.2.1 o1665.2.2.2.1 o1665.2.2.2.2.1 o1665.2.2.2.2.2)) (w2 := ((az_ou g ob o1665.2.1 :: az_wF g ax an au aw o1665.2.2.1 o1665.2.2.2.1 o1665.2.2.2.2.1 o1665.2.2.2.2.2) ++ az_cM g ad (va_up (va_up (va_up Mo 0 o1671.2.1) 1 o1671.2.2.1) 2 o1671.2.2.2))) (As := []) (rest := []) ⟨hx, hb, hml, hown, hts⟩ hl.1 (kX7_thrown l g ad (va_up (va_up (va_up Mo 0 o1671.2.1) 1 o1671.2.2.1) 2 o1671.2.2.2)  o1677 hc1677) (cwV 0 hts gL_law_X7_thrown rfl rfl rfl (by decide +kernel) ⟨(Nat.le_of_ble_eq_true rfl), (Nat.le_of_ble_eq_true rfl)⟩) rfl hK hP hD hS hA List.perm_append_comm List.perm_append_comm 0 rfl rfl rfl (Nat.le_of_ble_eq_true rfl) dL_law_1677 ⟨by show _ ≤ 601024; omega, by show _ ≤ 7293034; omega⟩ rfl (fun H locs hP hD hS => ?_)
  have hP : va_P g.1 az_cl (((az_ou g ob o1665.2.1 :: az_wF g ax an au aw o1665.2.2.1 o1665.2.2.2.1 o1665.2.2.2.2.1 o1665.2.2.2.2.2) ++ az_cM g ad (va_up (va_up (va_up Mo 0 o1671.2.1) 1 o1671.2.2.1) 2 o1671.2.2.2))) _ := hP
  have hD : va_D A (((az_ou g ob o1665.2.1 :: az_wF g ax an au aw o1665.2.2.1 o1665.2.2.2.1 o1665.2.2.2.2.1 o1665.2.2.2.2.2) ++ az_cM g ad (va_up (va_up (va_up Mo 0 o1671.2.1) 1 o1671.2.2.1) 2 o1671.2.2.2))) := hD
  refine lv_iload hx hb dL_law_1680 (lv_at hl 1 rfl) ?_
  refine lv_icmp_eq (tgt := 1687) hx hb dL_law_1682 (by decide) (fun c1682 => ?_) (fun c1682 => ?_)
  · replace h := az_pos c1682 h
    refine lv_iload hx hb dL_law_1687 (lv_at hl 1 rfl) ?_
    refine lv_if_ne (tgt := 1704) hx hb dL_law_1689 (by decide) (fun c1689 => ?_) (fun c1689 => ?_)
    · replace h := az_neg c1689 h
      refine lv_goto (tgt := 2624) hx hb dL_law_1704 (by decide) ?_
      refine lv_iinc (v := y4 + (4 : Int32)) (lv' := [(4, .int (y4 + (4 : Int32))), (6, .int o1671.1), (5, .int o1665.1), (0, .ref (b)), (1, .ref (ax 0)), (2, .ref (ad 0)), (3, .ref (ob))]) hx hb dL_law_2624 hl (k := 6) rfl rfl (by decide) rfl (fun ls hl => ?_)
      refine lv_goto (tgt := 23) hx hb dL_law_2627 (by decide) ?_
      have hP : va_P g.1 az_cl (((az_ou g ob o1665.2.1 :: az_wF g ax an au aw o1665.2.2.1 o1665.2.2.2.1 o1665.2.2.2.2.1 o1665.2.2.2.2.2) ++ az_cM g ad (va_up (va_up (va_up Mo 0 o1671.2.1) 1 o1671.2.2.1) 2 o1671.2.2.2))) _ := hP
      have hD : va_D A (((az_ou g ob o1665.2.1 :: az_wF g ax an au aw o1665.2.2.1 o1665.2.2.2.1 o1665.2.2.2.2.1 o1665.2.2.2.2.2) ++ az_cM g ad (va_up (va_up (va_up Mo 0 o1671.2.1) 1 o1671.2.2.1) 2 o1671.2.2.2))) := hD
      exact ih _ _ _ _ _ _ _ _ _ _ _ _ (by omega) (by omega) h hP hD hS (lv_sub hl [3, 4, 5, 6, 0] rfl)
    · replace h := az_pos c1689 h
      refine lv_aload_n hx hb dL_law_1692 rfl (lv_at hl 5 rfl) ?_
      refine lv_iconst (v := (0 : Int32)) hx hb dL_law_1693 (by decide) ?_
      refine va_lald (D := g.1) (f := o1665.2.1) hx hb hK hP 0 2 rfl rfl (az_vin (by decide +kernel)) dL_law_1694 ?_
      refine lv_iload hx hb dL_law_1695 (lv_at hl 0 rfl) ?_
      refine lv_i2l (v := o1671.1.toInt64) hx hb dL_law_1697 rfl ?_
      refine W.lcmp hx hb dL_law_1698 ?_
      refine lv_if_eq (tgt := 1704) hx hb dL_law_1699 (by decide) (fun c1699 => ?_) (fun c1699 => ?_)
      · replace h := az_pos c1699 h
        refine lv_goto (tgt := 2624) hx hb dL_law_1704 (by decide) ?_
        refine lv_iinc (v := y4 + (4 : Int32)) (lv' := [(4, .int (y4 + (4 : Int32))), (6, .int o1671.1), (5, .int o1665.1), (0, .ref (b)), (1, .ref (ax 0)), (2, .ref (ad 0)), (3, .ref (ob))]) hx hb dL_law_2624 hl (k := 6) rfl rfl (by decide) rfl (fun ls hl => ?_)
        refine lv_goto (tgt := 23) hx hb dL_law_2627 (by decide) ?_
        have hP : va_P g.1 az_cl (((az_ou g ob o1665.2.1 :: az_wF g ax an au aw o1665.2.2.1 o1665.2.2.2.1 o1665.2.2.2.2.1 o1665.2.2.2.2.2) ++ az_cM g ad (va_up (va_up (va_up Mo 0 o1671.2.1) 1 o1671.2.2.1) 2 o1671.2.2.2))) _ := hP
        have hD : va_D A (((az_ou g ob o1665.2.1 :: az_wF g ax an au aw o1665.2.2.1 o1665.2.2.2.1 o1665.2.2.2.2.1 o1665.2.2.2.2.2) ++ az_cM g ad (va_up (va_up (va_up Mo 0 o1671.2.1) 1 o1671.2.2.1) 2 o1671.2.2.2))) := hD
        exact ih _ _ _ _ _ _ _ _ _ _ _ _ (by omega) (by omega) h hP hD hS (lv_sub hl [3, 4, 5, 6, 0] rfl)
      · replace h := az_neg c1699 h
        refine lv_iconst (v := (0 : Int32)) hx hb dL_law_1702 (by decide) ?_
        exact absurd (Option.some.inj h) (by decide)
  · replace h := az_neg c1682 h
    refine lv_iconst (v := (0 : Int32)) hx hb dL_law_1685 (by decide) ?_
    exact absurd (Option.some.inj h) (by decide)
set_option maxHeartbeats 8000000 in
set_option maxRecDepth 100000 in
theorem LWC27 {p : Program} {e : Env} {s : State} {m : MethodId} {below : List Frame} {meth : Method} {c : Code} (l : Launch) (hst : l.stackTraces = false) {b L : Nat} {xs : Nat → Int32} (hL : L ≤ 2048) (C0 : lw_At p s m meth c b L xs) (g : az_G) (sa : Nat → Nat) (ax an au : Nat → Nat) (aw : Nat → Nat → Nat) (ob : Nat) (ad : Nat → Nat) (hX : va_X b L xs s s.heap) (hbl : b < s.heap.size) (hbA : ¬ (fun q : Nat => s.heap.size ≤ q) b) (hcx : az_cx sa (fun q : Nat => s.heap.size ≤ q) s s.heap) (hA : ∀ q : Nat, s.heap.size ≤ q → (fun q : Nat => s.heap.size ≤ q) q) (hK : va_K g.1 az_cl (az_tys g) s) (hts : ∀ w ∈ wsL_law, w.before #[Value.ref b] s = true) (n : Nat) (ih : ∀ (cn sn : Nat) (V T : az_St) (S : Nat → az_St) (hs : Nat → Int32) (Mo : az_St) (f : Nat → Int64) (y4 : Int32) (H : Heap) (locs : List Loc) (ls : Array Slot), cn + 6 * n ≤ 5000 → sn + 36 * n ≤ 60000 → F_law_L n xs L V T S hs Mo f y4 = some 1 → va_P g.1 az_cl (((az_ou g ob f :: az_wF g ax an au aw V T S hs) ++ az_cM g ad Mo)) H → va_D (fun q : Nat => s.heap.size ≤ q) (((az_ou g ob f :: az_wF g ax an au aw V T S hs) ++ az_cM g ad Mo)) → va_S (fun q : Nat => s.heap.size ≤ q) s.heap H locs → lv_has ls 7 [(0, .ref (b)), (1, .ref (ax 0)), (2, .ref (ad 0)), (3, .ref (ob)), (4, .int y4)] → W p l e room_1 s m #[Value.ref b] below meth c H locs cn sn (lw_Z below #[Value.ref b] s) (F0 m 23 ls [])) : ∀ (cn sn : Nat) (V T : az_St) (S : Nat → az_St) (hs : Nat → Int32) (Mo : az_St) (f : Nat → Int64) (y4 : Int32) (H : Heap) (locs : List Loc) (ls : Array Slot), cn + 6 * (n + 1) ≤ 5000 → sn + 36 * (n + 1) ≤ 60000 → ¬ ((Int32.ofNat L) - (4 : Int32) < y4) → az_in y4 L = true → F_law_C27 (fun V T S hs Mo f y4 => F_law_L n xs L V T S hs Mo f y4) xs L V T S hs Mo f y4 = some 1 → va_P g.1 az_cl (((az_ou g ob f :: az_wF g ax an au aw V T S hs) ++ az_cM g ad Mo)) H → va_D (fun q : Nat => s.heap.size ≤ q) (((az_ou g ob f :: az_wF g ax an au aw V T S hs) ++ az_cM g ad Mo)) → va_S (fun q : Nat => s.heap.size ≤ q) s.heap H locs → lv_has ls 7 [(0, .ref (b)), (1, .ref (ax 0)), (2, .ref (ad 0)), (3, .ref (ob)), (4, .int y4)] → W p l e room_1 s m #[Value.ref b] below meth c H locs cn sn (lw_Z below #[Value.ref b] s) (F0 m 1707 ls []) := by
  intro cn sn V T S hs Mo f y4 H locs ls hcn hsn c29 i35 h hP hD hS hl
  obtain ⟨hx, hb, hr, hml, hown, -, -, -, hlocks, -⟩ := id C0
  unfold F_law_C27 at h
  obtain ⟨A, eA⟩ : ∃ A : Nat → Prop, A = (fun q : Nat => s.heap.size ≤ q) := ⟨_, rfl⟩
  rw [← eA] at hbA hcx hA hD hS ih
  refine lv_aload_n hx hb dL_law_1707 rfl (lv_at hl 1 rfl) ?_
  refine lv_aload_n hx hb dL_law_1708 rfl (lv_at hl 0 rfl) ?_
  refine lv_iload hx hb dL_law_1709 (lv_at hl 4 rfl) ?_
  refine lv_iconst (v := (1 : Int32)) hx hb dL_law_1711 (by decide) ?_
  refine lv_iadd hx hb dL_law_1712 ?_
  obtain ⟨i1713, h⟩ := az_ite h
  refine va_sld hx hb hX hbl hbA hS (az_vin i1713) dL_law_1713 ?_
  refine lv_aload_n hx hb dL_law_1714 rfl (lv_at hl 3 rfl) ?_
  obtain ⟨o1715, hc1715, h⟩ := az_bnd h
  refine az_callLW (wr := az_cM g ad Mo) (As := [.ref (ax 0), .int (xs (y4 + (1 : Int32)).toNatClampNeg), .ref (ob)]) (rest := []) ⟨hx, hb, hml, hown, hts⟩ hl.1 (kL_pass l hst g sa ax an au aw ob V T S hs f (xs (y4 + (1 : Int32)).toNatClampNeg) o1715 hc1715) (vx_cwSW (hh := [(0, 9, 12, 13), (0, 9, 15, 21)]) 3 hts gL_law_L_pass rfl rfl rfl (by decide +kernel) ⟨(Nat.le_of_ble_eq_true rfl), (Nat.le_of_ble_eq_true rfl)⟩) rfl hK hcx hP hD hS hA (Nat.le_of_ble_eq_true rfl) dL_law_1715 ⟨by show _ ≤ 601024; omega, by show _ ≤ 7293034; omega⟩ rfl (fun H locs hP hD hS => ?_)
  have hP : va_P g.1 az_cl (((az_ou g ob o1715.2.1 :: az_wF g ax an au aw o1715.2.2.1 o1715.2.2.2.1 o1715.2.2.2.2.1 o1715.2.2.2.2.2) ++ az_cM g ad Mo)) _ := hP
  have hD : va_D A (((az_ou g ob o1715.2.1 :: az_wF g ax an au aw o1715.2.2.1 o1715.2.2.2.1 o1715.2.2.2.2.1 o1715.2.2.2.2.2) ++ az_cM g ad Mo)) := hD
  refine lv_istore (lv' := [(5, .int o1715.1), (0, .ref (b)), (1, .ref (ax 0)), (2, .ref (ad 0)), (3, .ref (ob)), (4, .int y4)]) hx hb dL_law_1718 hl (by decide) rfl (fun ls hl => ?_)
  refine lv_aload_n hx hb dL_law_1720 rfl (lv_at hl 3 rfl) ?_
  refine lv_aload_n hx hb dL_law_1721 rfl (lv_at hl 1 rfl) ?_
  refine lv_iload hx hb dL_law_1722 (lv_at hl 5 rfl) ?_
  refine lv_iconst (v := (1 : Int32)) hx hb dL_law_1724 (by decide) ?_
  refine lv_iadd hx hb dL_law_1725 ?_
  refine va_sld hx hb hX hbl hbA hS (az_vin i1713) dL_law_1726 ?_
  obtain ⟨o1727, hc1727, h⟩ := az_bnd h
  refine az_callPi (wr := (az_ou g ob o1715.2.1 :: az_wF g ax an au aw o1715.2.2.1 o1715.2.2.2.1 o1715.2.2.2.2.1 o1715.2.2.2.2.2)) (w2 := ((az_ou g ob o1715.2.1 :: az_wF g ax an au aw o1715.2.2.1 o1715.2.2.2.1 o1715.2.2.2.2.1 o1715.2.2.2.2.2) ++ az_cM g ad (va_up (va_up (va_up Mo 0 o1727.2.1) 1 o1727.2.2.1) 2 o1727.2.2.2))) (As := [.int (xs (y4 + (1 : Int32)).toNatClampNeg)]) (rest := []) ⟨hx, hb, hml, hown, hts⟩ hl.1 (kX7_pass l g ad Mo (xs (y4 + (1 : Int32)).toNatClampNeg) o1727 hc1727) (cwV 1 hts gL_law_X7_pass rfl rfl rfl (by decide +kernel) ⟨(Nat.le_of_ble_eq_true rfl), (Nat.le_of_ble_eq_true rfl)⟩) rfl hK hP hD hS hA List.perm_append_comm List.perm_append_comm 0 rfl rfl rfl (Nat.le_of_ble_eq_true rfl) dL_law_1727 ⟨by show _ ≤ 601024; omega, by show _ ≤ 7293034; omega⟩ rfl (fun H locs hP hD hS => ?_)
  have hP : va_P g.1 az_cl (((az_ou g ob o1715.2.1 :: az_wF g ax an au aw o1715.2.2.1 o1715.2.2.2.1 o1715.2.2.2.2.1 o1715.2.2.2.2.2) ++ az_cM g ad (va_up (va_up (va_up Mo 0 o1727.2.1) 1 o1727.2.2.1) 2 o1727.2.2.2))) _ := hP
  have hD : va_D A (((az_ou g ob o1715.2.1 :: az_wF g ax an au aw o1715.2.2.1 o1715.2.2.2.1 o1715.2.2.2.2.1 o1715.2.2.2.2.2) ++ az_cM g ad (va_up (va_up (va_up Mo 0 o1727.2.1) 1 o1727.2.2.1) 2 o1727.2.2.2))) := hD
  refine lv_istore (lv' := [(6, .int o1727.1), (5, .int o1715.1), (0, .ref (b)), (1, .ref (ax 0)), (2, .ref (ad 0)), (3, .ref (ob)), (4, .int y4)]) hx hb dL_law_1730 hl (by decide) rfl (fun ls hl => ?_)
  refine lv_aload_n hx hb dL_law_1732 rfl (lv_at hl 4 rfl) ?_
  obtain ⟨o1733, hc1733, h⟩ := az_bnd h
  refine az_callPi (wr := (az_ou g ob o1715.2.1 :: az_wF g ax an au aw o1715.2.2.1 o1715.2.2.2.1 o1715.2.2.2.2.1 o1715.2.2.2.2.2)) (w2 := ((az_ou g ob o1715.2.1 :: az_wF g ax an au aw o1715.2.2.1 o1715.2.2.2.1 o1715.2.2.2.2.1 o1715.2.2.2.2.2) ++ az_cM g ad (va_up (va_up (va_up Mo 0 o1727.2.1) 1 o1727.2.2.1) 2 o1727.2.2.2))) (As := []) (rest := []) ⟨hx, hb, hml, hown, hts⟩ hl.1 (kX7_thrown l g ad (va_up (va_up (va_up Mo 0 o1727.2.1) 1 o1727.2.2.1) 2 o1727.2.2.2)  o1733 hc1733) (cwV 0 hts gL_law_X7_thrown rfl rfl rfl (by decide +kernel) ⟨(Nat.le_of_ble_eq_true rfl), (Nat.le_of_ble_eq_true rfl)⟩) rfl hK hP hD hS hA List.perm_append_comm List.perm_append_comm 0 rfl rfl rfl (Nat.le_of_ble_eq_true rfl) dL_law_1733 ⟨by show _ ≤ 601024; omega, by show _ ≤ 7293034; omega⟩ rfl (fun H locs hP hD hS => ?_)
  have hP : va_P g.1 az_cl (((az_ou g ob o1715.2.1 :: az_wF g ax an au aw o1715.2.2.1 o1715.2.2.2.1 o1715.2.2.2.2.1 o1715.2.2.2.2.2) ++ az_cM g ad (va_up (va_up (va_up Mo 0 o1727.2.1) 1 o1727.2.2.1) 2 o1727.2.2.2))) _ := hP
  have hD : va_D A (((az_ou g ob o1715.2.1 :: az_wF g ax an au aw o1715.2.2.1 o1715.2.2.2.1 o1715.2.2.2.2.1 o1715.2.2.2.2.2) ++ az_cM g ad (va_up (va_up (va_up Mo 0 o1727.2.1) 1 o1727.2.2.1) 2 o1727.2.2.2))) := hD
  refine lv_iload hx hb dL_law_1736 (lv_at hl 1 rfl) ?_
  refine lv_icmp_eq (tgt := 1743) hx hb dL_law_1738 (by decide) (fun c1738 => ?_) (fun c1738 => ?_)
  · replace h := az_pos c1738 h
    refine lv_iload hx hb dL_law_1743 (lv_at hl 1 rfl) ?_
    refine lv_if_ne (tgt := 1760) hx hb dL_law_1745 (by decide) (fun c1745 => ?_) (fun c1745 => ?_)
    · replace h := az_neg c1745 h
      refine lv_goto (tgt := 2624) hx hb dL_law_1760 (by decide) ?_
      refine lv_iinc (v := y4 + (4 : Int32)) (lv' := [(4, .int (y4 + (4 : Int32))), (6, .int o1727.1), (5, .int o1715.1), (0, .ref (b)), (1, .ref (ax 0)), (2, .ref (ad 0)), (3, .ref (ob))]) hx hb dL_law_2624 hl (k := 6) rfl rfl (by decide) rfl (fun ls hl => ?_)
      refine lv_goto (tgt := 23) hx hb dL_law_2627 (by decide) ?_
      have hP : va_P g.1 az_cl (((az_ou g ob o1715.2.1 :: az_wF g ax an au aw o1715.2.2.1 o1715.2.2.2.1 o1715.2.2.2.2.1 o1715.2.2.2.2.2) ++ az_cM g ad (va_up (va_up (va_up Mo 0 o1727.2.1) 1 o1727.2.2.1) 2 o1727.2.2.2))) _ := hP
      have hD : va_D A (((az_ou g ob o1715.2.1 :: az_wF g ax an au aw o1715.2.2.1 o1715.2.2.2.1 o1715.2.2.2.2.1 o1715.2.2.2.2.2) ++ az_cM g ad (va_up (va_up (va_up Mo 0 o1727.2.1) 1 o1727.2.2.1) 2 o1727.2.2.2))) := hD
      exact ih _ _ _ _ _ _ _ _ _ _ _ _ (by omega) (by omega) h hP hD hS (lv_sub hl [3, 4, 5, 6, 0] rfl)
    · replace h := az_pos c1745 h
      refine lv_aload_n hx hb dL_law_1748 rfl (lv_at hl 5 rfl) ?_
      refine lv_iconst (v := (0 : Int32)) hx hb dL_law_1749 (by decide) ?_
      refine va_lald (D := g.1) (f := o1715.2.1) hx hb hK hP 0 2 rfl rfl (az_vin (by decide +kernel)) dL_law_1750 ?_
      refine lv_iload hx hb dL_law_1751 (lv_at hl 0 rfl) ?_
      refine lv_i2l (v := o1727.1.toInt64) hx hb dL_law_1753 rfl ?_
      refine W.lcmp hx hb dL_law_1754 ?_
      refine lv_if_eq (tgt := 1760) hx hb dL_law_1755 (by decide) (fun c1755 => ?_) (fun c1755 => ?_)
      · replace h := az_pos c1755 h
        refine lv_goto (tgt := 2624) hx hb dL_law_1760 (by decide) ?_
        refine lv_iinc (v := y4 + (4 : Int32)) (lv' := [(4, .int (y4 + (4 : Int32))), (6, .int o1727.1), (5, .int o1715.1), (0, .ref (b)), (1, .ref (ax 0)), (2, .ref (ad 0)), (3, .ref (ob))]) hx hb dL_law_2624 hl (k := 6) rfl rfl (by decide) rfl (fun ls hl => ?_)
        refine lv_goto (tgt := 23) hx hb dL_law_2627 (by decide) ?_
        have hP : va_P g.1 az_cl (((az_ou g ob o1715.2.1 :: az_wF g ax an au aw o1715.2.2.1 o1715.2.2.2.1 o1715.2.2.2.2.1 o1715.2.2.2.2.2) ++ az_cM g ad (va_up (va_up (va_up Mo 0 o1727.2.1) 1 o1727.2.2.1) 2 o1727.2.2.2))) _ := hP
        have hD : va_D A (((az_ou g ob o1715.2.1 :: az_wF g ax an au aw o1715.2.2.1 o1715.2.2.2.1 o1715.2.2.2.2.1 o1715.2.2.2.2.2) ++ az_cM g ad (va_up (va_up (va_up Mo 0 o1727.2.1) 1 o1727.2.2.1) 2 o1727.2.2.2))) := hD
        exact ih _ _ _ _ _ _ _ _ _ _ _ _ (by omega) (by omega) h hP hD hS (lv_sub hl [3, 4, 5, 6, 0] rfl)
      · replace h := az_neg c1755 h
        refine lv_iconst (v := (0 : Int32)) hx hb dL_law_1758 (by decide) ?_
        exact absurd (Option.some.inj h) (by decide)
  · replace h := az_neg c1738 h
    refine lv_iconst (v := (0 : Int32)) hx hb dL_law_1741 (by decide) ?_
    exact absurd (Option.some.inj h) (by decide)
set_option maxHeartbeats 8000000 in
set_option maxRecDepth 100000 in
theorem LWC28 {p : Program} {e : Env} {s : State} {m : MethodId} {below : List Frame} {meth : Method} {c : Code} (l : Launch) (hst : l.stackTraces = false) {b L : Nat} {xs : Nat → Int32} (hL : L ≤ 2048) (C0 : lw_At p s m meth c b L xs) (g : az_G) (sa : Nat → Nat) (ax an au : Nat → Nat) (aw : Nat → Nat → Nat) (ob : Nat) (ad : Nat → Nat) (hX : va_X b L xs s s.heap) (hbl : b < s.heap.size) (hbA : ¬ (fun q : Nat => s.heap.size ≤ q) b) (hcx : az_cx sa (fun q : Nat => s.heap.size ≤ q) s s.heap) (hA : ∀ q : Nat, s.heap.size ≤ q → (fun q : Nat => s.heap.size ≤ q) q) (hK : va_K g.1 az_cl (az_tys g) s) (hts : ∀ w ∈ wsL_law, w.before #[Value.ref b] s = true) (n : Nat) (ih : ∀ (cn sn : Nat) (V T : az_St) (S : Nat → az_St) (hs : Nat → Int32) (Mo : az_St) (f : Nat → Int64) (y4 : Int32) (H : Heap) (locs : List Loc) (ls : Array Slot), cn + 6 * n ≤ 5000 → sn + 36 * n ≤ 60000 → F_law_L n xs L V T S hs Mo f y4 = some 1 → va_P g.1 az_cl (((az_ou g ob f :: az_wF g ax an au aw V T S hs) ++ az_cM g ad Mo)) H → va_D (fun q : Nat => s.heap.size ≤ q) (((az_ou g ob f :: az_wF g ax an au aw V T S hs) ++ az_cM g ad Mo)) → va_S (fun q : Nat => s.heap.size ≤ q) s.heap H locs → lv_has ls 7 [(0, .ref (b)), (1, .ref (ax 0)), (2, .ref (ad 0)), (3, .ref (ob)), (4, .int y4)] → W p l e room_1 s m #[Value.ref b] below meth c H locs cn sn (lw_Z below #[Value.ref b] s) (F0 m 23 ls [])) : ∀ (cn sn : Nat) (V T : az_St) (S : Nat → az_St) (hs : Nat → Int32) (Mo : az_St) (f : Nat → Int64) (y4 : Int32) (H : Heap) (locs : List Loc) (ls : Array Slot), cn + 6 * (n + 1) ≤ 5000 → sn + 36 * (n + 1) ≤ 60000 → ¬ ((Int32.ofNat L) - (4 : Int32) < y4) → az_in y4 L = true → F_law_C28 (fun V T S hs Mo f y4 => F_law_L n xs L V T S hs Mo f y4) xs L V T S hs Mo f y4 = some 1 → va_P g.1 az_cl (((az_ou g ob f :: az_wF g ax an au aw V T S hs) ++ az_cM g ad Mo)) H → va_D (fun q : Nat => s.heap.size ≤ q) (((az_ou g ob f :: az_wF g ax an au aw V T S hs) ++ az_cM g ad Mo)) → va_S (fun q : Nat => s.heap.size ≤ q) s.heap H locs → lv_has ls 7 [(0, .ref (b)), (1, .ref (ax 0)), (2, .ref (ad 0)), (3, .ref (ob)), (4, .int y4)] → W p l e room_1 s m #[Value.ref b] below meth c H locs cn sn (lw_Z below #[Value.ref b] s) (F0 m 1763 ls []) := by
  intro cn sn V T S hs Mo f y4 H locs ls hcn hsn c29 i35 h hP hD hS hl
  obtain ⟨hx, hb, hr, hml, hown, -, -, -, hlocks, -⟩ := id C0
  unfold F_law_C28 at h
  obtain ⟨A, eA⟩ : ∃ A : Nat → Prop, A = (fun q : Nat => s.heap.size ≤ q) := ⟨_, rfl⟩
  rw [← eA] at hbA hcx hA hD hS ih
  refine lv_aload_n hx hb dL_law_1763 rfl (lv_at hl 1 rfl) ?_
  refine lv_aload_n hx hb dL_law_1764 rfl (lv_at hl 0 rfl) ?_
  refine lv_iload hx hb dL_law_1765 (lv_at hl 4 rfl) ?_
  refine lv_iconst (v := (1 : Int32)) hx hb dL_law_1767 (by decide) ?_
  refine lv_iadd hx hb dL_law_1768 ?_
  obtain ⟨i1769, h⟩ := az_ite h
  refine va_sld hx hb hX hbl hbA hS (az_vin i1769) dL_law_1769 ?_
  refine lv_aload_n hx hb dL_law_1770 rfl (lv_at hl 3 rfl) ?_
  obtain ⟨o1771, hc1771, h⟩ := az_bnd h
  refine az_callLW (wr := az_cM g ad Mo) (As := [.ref (ax 0), .int (xs (y4 + (1 : Int32)).toNatClampNeg), .ref (ob)]) (rest := []) ⟨hx, hb, hml, hown, hts⟩ hl.1 (kL_count l hst g sa ax an au aw ob V T S hs f (xs (y4 + (1 : Int32)).toNatClampNeg) o1771 hc1771) (vx_cwSW (hh := [(0, 9, 12, 13)]) 3 hts gL_law_L_count rfl rfl rfl (by decide +kernel) ⟨(Nat.le_of_ble_eq_true rfl), (Nat.le_of_ble_eq_true rfl)⟩) rfl hK hcx hP hD hS hA (Nat.le_of_ble_eq_true rfl) dL_law_1771 ⟨by show _ ≤ 601024; omega, by show _ ≤ 7293034; omega⟩ rfl (fun H locs hP hD hS => ?_)
  have hP : va_P g.1 az_cl (((az_ou g ob o1771.2.1 :: az_wF g ax an au aw o1771.2.2.1 o1771.2.2.2.1 o1771.2.2.2.2.1 o1771.2.2.2.2.2) ++ az_cM g ad Mo)) _ := hP
  have hD : va_D A (((az_ou g ob o1771.2.1 :: az_wF g ax an au aw o1771.2.2.1 o1771.2.2.2.1 o1771.2.2.2.2.1 o1771.2.2.2.2.2) ++ az_cM g ad Mo)) := hD
  refine lv_istore (lv' := [(5, .int o1771.1), (0, .ref (b)), (1, .ref (ax 0)), (2, .ref (ad 0)), (3, .ref (ob)), (4, .int y4)]) hx hb dL_law_1774 hl (by decide) rfl (fun ls hl => ?_)
  refine lv_aload_n hx hb dL_law_1776 rfl (lv_at hl 3 rfl) ?_
  refine lv_aload_n hx hb dL_law_1777 rfl (lv_at hl 1 rfl) ?_
  refine lv_iload hx hb dL_law_1778 (lv_at hl 5 rfl) ?_
  refine lv_iconst (v := (1 : Int32)) hx hb dL_law_1780 (by decide) ?_
  refine lv_iadd hx hb dL_law_1781 ?_
  refine va_sld hx hb hX hbl hbA hS (az_vin i1769) dL_law_1782 ?_
  obtain ⟨o1783, hc1783, h⟩ := az_bnd h
  refine az_callPi (wr := (az_ou g ob o1771.2.1 :: az_wF g ax an au aw o1771.2.2.1 o1771.2.2.2.1 o1771.2.2.2.2.1 o1771.2.2.2.2.2)) (w2 := ((az_ou g ob o1771.2.1 :: az_wF g ax an au aw o1771.2.2.1 o1771.2.2.2.1 o1771.2.2.2.2.1 o1771.2.2.2.2.2) ++ az_cM g ad (va_up Mo 2 o1783.2))) (As := [.int (xs (y4 + (1 : Int32)).toNatClampNeg)]) (rest := []) ⟨hx, hb, hml, hown, hts⟩ hl.1 (kX7_count l g ad Mo (xs (y4 + (1 : Int32)).toNatClampNeg) o1783 hc1783) (cwV 1 hts gL_law_X7_count rfl rfl rfl (by decide +kernel) ⟨(Nat.le_of_ble_eq_true rfl), (Nat.le_of_ble_eq_true rfl)⟩) rfl hK hP hD hS hA List.perm_append_comm List.perm_append_comm 0 rfl rfl rfl (Nat.le_of_ble_eq_true rfl) dL_law_1783 ⟨by show _ ≤ 601024; omega, by show _ ≤ 7293034; omega⟩ rfl (fun H locs hP hD hS => ?_)
  have hP : va_P g.1 az_cl (((az_ou g ob o1771.2.1 :: az_wF g ax an au aw o1771.2.2.1 o1771.2.2.2.1 o1771.2.2.2.2.1 o1771.2.2.2.2.2) ++ az_cM g ad (va_up Mo 2 o1783.2))) _ := hP
  have hD : va_D A (((az_ou g ob o1771.2.1 :: az_wF g ax an au aw o1771.2.2.1 o1771.2.2.2.1 o1771.2.2.2.2.1 o1771.2.2.2.2.2) ++ az_cM g ad (va_up Mo 2 o1783.2))) := hD
  refine lv_istore (lv' := [(6, .int o1783.1), (5, .int o1771.1), (0, .ref (b)), (1, .ref (ax 0)), (2, .ref (ad 0)), (3, .ref (ob)), (4, .int y4)]) hx hb dL_law_1786 hl (by decide) rfl (fun ls hl => ?_)
  refine lv_aload_n hx hb dL_law_1788 rfl (lv_at hl 4 rfl) ?_
  obtain ⟨o1789, hc1789, h⟩ := az_bnd h
  refine az_callPi (wr := (az_ou g ob o1771.2.1 :: az_wF g ax an au aw o1771.2.2.1 o1771.2.2.2.1 o1771.2.2.2.2.1 o1771.2.2.2.2.2)) (w2 := ((az_ou g ob o1771.2.1 :: az_wF g ax an au aw o1771.2.2.1 o1771.2.2.2.1 o1771.2.2.2.2.1 o1771.2.2.2.2.2) ++ az_cM g ad (va_up Mo 2 o1783.2))) (As := []) (rest := []) ⟨hx, hb, hml, hown, hts⟩ hl.1 (kX7_thrown l g ad (va_up Mo 2 o1783.2)  o1789 hc1789) (cwV 0 hts gL_law_X7_thrown rfl rfl rfl (by decide +kernel) ⟨(Nat.le_of_ble_eq_true rfl), (Nat.le_of_ble_eq_true rfl)⟩) rfl hK hP hD hS hA List.perm_append_comm List.perm_append_comm 0 rfl rfl rfl (Nat.le_of_ble_eq_true rfl) dL_law_1789 ⟨by show _ ≤ 601024; omega, by show _ ≤ 7293034; omega⟩ rfl (fun H locs hP hD hS => ?_)
  have hP : va_P g.1 az_cl (((az_ou g ob o1771.2.1 :: az_wF g ax an au aw o1771.2.2.1 o1771.2.2.2.1 o1771.2.2.2.2.1 o1771.2.2.2.2.2) ++ az_cM g ad (va_up Mo 2 o1783.2))) _ := hP
  have hD : va_D A (((az_ou g ob o1771.2.1 :: az_wF g ax an au aw o1771.2.2.1 o1771.2.2.2.1 o1771.2.2.2.2.1 o1771.2.2.2.2.2) ++ az_cM g ad (va_up Mo 2 o1783.2))) := hD
  refine lv_iload hx hb dL_law_1792 (lv_at hl 1 rfl) ?_
  refine lv_icmp_eq (tgt := 1799) hx hb dL_law_1794 (by decide) (fun c1794 => ?_) (fun c1794 => ?_)
  · replace h := az_pos c1794 h
    refine lv_iload hx hb dL_law_1799 (lv_at hl 1 rfl) ?_
    refine lv_if_ne (tgt := 1816) hx hb dL_law_1801 (by decide) (fun c1801 => ?_) (fun c1801 => ?_)
    · replace h := az_neg c1801 h
      refine lv_goto (tgt := 2624) hx hb dL_law_1816 (by decide) ?_
      refine lv_iinc (v := y4 + (4 : Int32)) (lv' := [(4, .int (y4 + (4 : Int32))), (6, .int o1783.1), (5, .int o1771.1), (0, .ref (b)), (1, .ref (ax 0)), (2, .ref (ad 0)), (3, .ref (ob))]) hx hb dL_law_2624 hl (k := 6) rfl rfl (by decide) rfl (fun ls hl => ?_)
      refine lv_goto (tgt := 23) hx hb dL_law_2627 (by decide) ?_
      have hP : va_P g.1 az_cl (((az_ou g ob o1771.2.1 :: az_wF g ax an au aw o1771.2.2.1 o1771.2.2.2.1 o1771.2.2.2.2.1 o1771.2.2.2.2.2) ++ az_cM g ad (va_up Mo 2 o1783.2))) _ := hP
      have hD : va_D A (((az_ou g ob o1771.2.1 :: az_wF g ax an au aw o1771.2.2.1 o1771.2.2.2.1 o1771.2.2.2.2.1 o1771.2.2.2.2.2) ++ az_cM g ad (va_up Mo 2 o1783.2))) := hD
      exact ih _ _ _ _ _ _ _ _ _ _ _ _ (by omega) (by omega) h hP hD hS (lv_sub hl [3, 4, 5, 6, 0] rfl)
    · replace h := az_pos c1801 h
      refine lv_aload_n hx hb dL_law_1804 rfl (lv_at hl 5 rfl) ?_
      refine lv_iconst (v := (0 : Int32)) hx hb dL_law_1805 (by decide) ?_
      refine va_lald (D := g.1) (f := o1771.2.1) hx hb hK hP 0 2 rfl rfl (az_vin (by decide +kernel)) dL_law_1806 ?_
      refine lv_iload hx hb dL_law_1807 (lv_at hl 0 rfl) ?_
      refine lv_i2l (v := o1783.1.toInt64) hx hb dL_law_1809 rfl ?_
      refine W.lcmp hx hb dL_law_1810 ?_
      refine lv_if_eq (tgt := 1816) hx hb dL_law_1811 (by decide) (fun c1811 => ?_) (fun c1811 => ?_)
      · replace h := az_pos c1811 h
        refine lv_goto (tgt := 2624) hx hb dL_law_1816 (by decide) ?_
        refine lv_iinc (v := y4 + (4 : Int32)) (lv' := [(4, .int (y4 + (4 : Int32))), (6, .int o1783.1), (5, .int o1771.1), (0, .ref (b)), (1, .ref (ax 0)), (2, .ref (ad 0)), (3, .ref (ob))]) hx hb dL_law_2624 hl (k := 6) rfl rfl (by decide) rfl (fun ls hl => ?_)
        refine lv_goto (tgt := 23) hx hb dL_law_2627 (by decide) ?_
        have hP : va_P g.1 az_cl (((az_ou g ob o1771.2.1 :: az_wF g ax an au aw o1771.2.2.1 o1771.2.2.2.1 o1771.2.2.2.2.1 o1771.2.2.2.2.2) ++ az_cM g ad (va_up Mo 2 o1783.2))) _ := hP
        have hD : va_D A (((az_ou g ob o1771.2.1 :: az_wF g ax an au aw o1771.2.2.1 o1771.2.2.2.1 o1771.2.2.2.2.1 o1771.2.2.2.2.2) ++ az_cM g ad (va_up Mo 2 o1783.2))) := hD
        exact ih _ _ _ _ _ _ _ _ _ _ _ _ (by omega) (by omega) h hP hD hS (lv_sub hl [3, 4, 5, 6, 0] rfl)
      · replace h := az_neg c1811 h
        refine lv_iconst (v := (0 : Int32)) hx hb dL_law_1814 (by decide) ?_
        exact absurd (Option.some.inj h) (by decide)
  · replace h := az_neg c1794 h
    refine lv_iconst (v := (0 : Int32)) hx hb dL_law_1797 (by decide) ?_
    exact absurd (Option.some.inj h) (by decide)
set_option maxHeartbeats 8000000 in
set_option maxRecDepth 100000 in
theorem LWC29 {p : Program} {e : Env} {s : State} {m : MethodId} {below : List Frame} {meth : Method} {c : Code} (l : Launch) (hst : l.stackTraces = false) {b L : Nat} {xs : Nat → Int32} (hL : L ≤ 2048) (C0 : lw_At p s m meth c b L xs) (g : az_G) (sa : Nat → Nat) (ax an au : Nat → Nat) (aw : Nat → Nat → Nat) (ob : Nat) (ad : Nat → Nat) (hX : va_X b L xs s s.heap) (hbl : b < s.heap.size) (hbA : ¬ (fun q : Nat => s.heap.size ≤ q) b) (hcx : az_cx sa (fun q : Nat => s.heap.size ≤ q) s s.heap) (hA : ∀ q : Nat, s.heap.size ≤ q → (fun q : Nat => s.heap.size ≤ q) q) (hK : va_K g.1 az_cl (az_tys g) s) (hts : ∀ w ∈ wsL_law, w.before #[Value.ref b] s = true) (n : Nat) (ih : ∀ (cn sn : Nat) (V T : az_St) (S : Nat → az_St) (hs : Nat → Int32) (Mo : az_St) (f : Nat → Int64) (y4 : Int32) (H : Heap) (locs : List Loc) (ls : Array Slot), cn + 6 * n ≤ 5000 → sn + 36 * n ≤ 60000 → F_law_L n xs L V T S hs Mo f y4 = some 1 → va_P g.1 az_cl (((az_ou g ob f :: az_wF g ax an au aw V T S hs) ++ az_cM g ad Mo)) H → va_D (fun q : Nat => s.heap.size ≤ q) (((az_ou g ob f :: az_wF g ax an au aw V T S hs) ++ az_cM g ad Mo)) → va_S (fun q : Nat => s.heap.size ≤ q) s.heap H locs → lv_has ls 7 [(0, .ref (b)), (1, .ref (ax 0)), (2, .ref (ad 0)), (3, .ref (ob)), (4, .int y4)] → W p l e room_1 s m #[Value.ref b] below meth c H locs cn sn (lw_Z below #[Value.ref b] s) (F0 m 23 ls [])) : ∀ (cn sn : Nat) (V T : az_St) (S : Nat → az_St) (hs : Nat → Int32) (Mo : az_St) (f : Nat → Int64) (y4 : Int32) (H : Heap) (locs : List Loc) (ls : Array Slot), cn + 6 * (n + 1) ≤ 5000 → sn + 36 * (n + 1) ≤ 60000 → ¬ ((Int32.ofNat L) - (4 : Int32) < y4) → az_in y4 L = true → F_law_C29 (fun V T S hs Mo f y4 => F_law_L n xs L V T S hs Mo f y4) xs L V T S hs Mo f y4 = some 1 → va_P g.1 az_cl (((az_ou g ob f :: az_wF g ax an au aw V T S hs) ++ az_cM g ad Mo)) H → va_D (fun q : Nat => s.heap.size ≤ q) (((az_ou g ob f :: az_wF g ax an au aw V T S hs) ++ az_cM g ad Mo)) → va_S (fun q : Nat => s.heap.size ≤ q) s.heap H locs → lv_has ls 7 [(0, .ref (b)), (1, .ref (ax 0)), (2, .ref (ad 0)), (3, .ref (ob)), (4, .int y4)] → W p l e room_1 s m #[Value.ref b] below meth c H locs cn sn (lw_Z below #[Value.ref b] s) (F0 m 1819 ls []) := by
  intro cn sn V T S hs Mo f y4 H locs ls hcn hsn c29 i35 h hP hD hS hl
  obtain ⟨hx, hb, hr, hml, hown, -, -, -, hlocks, -⟩ := id C0
  unfold F_law_C29 at h
  obtain ⟨A, eA⟩ : ∃ A : Nat → Prop, A = (fun q : Nat => s.heap.size ≤ q) := ⟨_, rfl⟩
  rw [← eA] at hbA hcx hA hD hS ih
  refine lv_aload_n hx hb dL_law_1819 rfl (lv_at hl 1 rfl) ?_
  refine lv_aload_n hx hb dL_law_1820 rfl (lv_at hl 0 rfl) ?_
  refine lv_iload hx hb dL_law_1821 (lv_at hl 4 rfl) ?_
  refine lv_iconst (v := (1 : Int32)) hx hb dL_law_1823 (by decide) ?_
  refine lv_iadd hx hb dL_law_1824 ?_
  obtain ⟨i1825, h⟩ := az_ite h
  refine va_sld hx hb hX hbl hbA hS (az_vin i1825) dL_law_1825 ?_
  refine lv_aload_n hx hb dL_law_1826 rfl (lv_at hl 3 rfl) ?_
  obtain ⟨o1827, hc1827, h⟩ := az_bnd h
  refine az_callLW (wr := az_cM g ad Mo) (As := [.ref (ax 0), .int (xs (y4 + (1 : Int32)).toNatClampNeg), .ref (ob)]) (rest := []) ⟨hx, hb, hml, hown, hts⟩ hl.1 (kL_blocks l hst g sa ax an au aw ob V T S hs f (xs (y4 + (1 : Int32)).toNatClampNeg) o1827 hc1827) (vx_cwSW (hh := [(0, 9, 12, 13)]) 3 hts gL_law_L_blocks rfl rfl rfl (by decide +kernel) ⟨(Nat.le_of_ble_eq_true rfl), (Nat.le_of_ble_eq_true rfl)⟩) rfl hK hcx hP hD hS hA (Nat.le_of_ble_eq_true rfl) dL_law_1827 ⟨by show _ ≤ 601024; omega, by show _ ≤ 7293034; omega⟩ rfl (fun H locs hP hD hS => ?_)
  have hP : va_P g.1 az_cl (((az_ou g ob o1827.2.1 :: az_wF g ax an au aw o1827.2.2.1 o1827.2.2.2.1 o1827.2.2.2.2.1 o1827.2.2.2.2.2) ++ az_cM g ad Mo)) _ := hP
  have hD : va_D A (((az_ou g ob o1827.2.1 :: az_wF g ax an au aw o1827.2.2.1 o1827.2.2.2.1 o1827.2.2.2.2.1 o1827.2.2.2.2.2) ++ az_cM g ad Mo)) := hD
  refine lv_istore (lv' := [(5, .int o1827.1), (0, .ref (b)), (1, .ref (ax 0)), (2, .ref (ad 0)), (3, .ref (ob)), (4, .int y4)]) hx hb dL_law_1830 hl (by decide) rfl (fun ls hl => ?_)
  refine lv_aload_n hx hb dL_law_1832 rfl (lv_at hl 3 rfl) ?_
  refine lv_aload_n hx hb dL_law_1833 rfl (lv_at hl 1 rfl) ?_
  refine lv_iload hx hb dL_law_1834 (lv_at hl 5 rfl) ?_
  refine lv_iconst (v := (1 : Int32)) hx hb dL_law_1836 (by decide) ?_
  refine lv_iadd hx hb dL_law_1837 ?_
  refine va_sld hx hb hX hbl hbA hS (az_vin i1825) dL_law_1838 ?_
  obtain ⟨o1839, hc1839, h⟩ := az_bnd h
  refine az_callPi (wr := (az_ou g ob o1827.2.1 :: az_wF g ax an au aw o1827.2.2.1 o1827.2.2.2.1 o1827.2.2.2.2.1 o1827.2.2.2.2.2)) (w2 := ((az_ou g ob o1827.2.1 :: az_wF g ax an au aw o1827.2.2.1 o1827.2.2.2.1 o1827.2.2.2.2.1 o1827.2.2.2.2.2) ++ az_cM g ad (va_up Mo 2 o1839.2))) (As := [.int (xs (y4 + (1 : Int32)).toNatClampNeg)]) (rest := []) ⟨hx, hb, hml, hown, hts⟩ hl.1 (kX7_blocks l g ad Mo (xs (y4 + (1 : Int32)).toNatClampNeg) o1839 hc1839) (cwV 1 hts gL_law_X7_blocks rfl rfl rfl (by decide +kernel) ⟨(Nat.le_of_ble_eq_true rfl), (Nat.le_of_ble_eq_true rfl)⟩) rfl hK hP hD hS hA List.perm_append_comm List.perm_append_comm 0 rfl rfl rfl (Nat.le_of_ble_eq_true rfl) dL_law_1839 ⟨by show _ ≤ 601024; omega, by show _ ≤ 7293034; omega⟩ rfl (fun H locs hP hD hS => ?_)
  have hP : va_P g.1 az_cl (((az_ou g ob o1827.2.1 :: az_wF g ax an au aw o1827.2.2.1 o1827.2.2.2.1 o1827.2.2.2.2.1 o1827.2.2.2.2.2) ++ az_cM g ad (va_up Mo 2 o1839.2))) _ := hP
  have hD : va_D A (((az_ou g ob o1827.2.1 :: az_wF g ax an au aw o1827.2.2.1 o1827.2.2.2.1 o1827.2.2.2.2.1 o1827.2.2.2.2.2) ++ az_cM g ad (va_up Mo 2 o1839.2))) := hD
  refine lv_istore (lv' := [(6, .int o1839.1), (5, .int o1827.1), (0, .ref (b)), (1, .ref (ax 0)), (2, .ref (ad 0)), (3, .ref (ob)), (4, .int y4)]) hx hb dL_law_1842 hl (by decide) rfl (fun ls hl => ?_)
  refine lv_aload_n hx hb dL_law_1844 rfl (lv_at hl 4 rfl) ?_
  obtain ⟨o1845, hc1845, h⟩ := az_bnd h
  refine az_callPi (wr := (az_ou g ob o1827.2.1 :: az_wF g ax an au aw o1827.2.2.1 o1827.2.2.2.1 o1827.2.2.2.2.1 o1827.2.2.2.2.2)) (w2 := ((az_ou g ob o1827.2.1 :: az_wF g ax an au aw o1827.2.2.1 o1827.2.2.2.1 o1827.2.2.2.2.1 o1827.2.2.2.2.2) ++ az_cM g ad (va_up Mo 2 o1839.2))) (As := []) (rest := []) ⟨hx, hb, hml, hown, hts⟩ hl.1 (kX7_thrown l g ad (va_up Mo 2 o1839.2)  o1845 hc1845) (cwV 0 hts gL_law_X7_thrown rfl rfl rfl (by decide +kernel) ⟨(Nat.le_of_ble_eq_true rfl), (Nat.le_of_ble_eq_true rfl)⟩) rfl hK hP hD hS hA List.perm_append_comm List.perm_append_comm 0 rfl rfl rfl (Nat.le_of_ble_eq_true rfl) dL_law_1845 ⟨by show _ ≤ 601024; omega, by show _ ≤ 7293034; omega⟩ rfl (fun H locs hP hD hS => ?_)
  have hP : va_P g.1 az_cl (((az_ou g ob o1827.2.1 :: az_wF g ax an au aw o1827.2.2.1 o1827.2.2.2.1 o1827.2.2.2.2.1 o1827.2.2.2.2.2) ++ az_cM g ad (va_up Mo 2 o1839.2))) _ := hP
  have hD : va_D A (((az_ou g ob o1827.2.1 :: az_wF g ax an au aw o1827.2.2.1 o1827.2.2.2.1 o1827.2.2.2.2.1 o1827.2.2.2.2.2) ++ az_cM g ad (va_up Mo 2 o1839.2))) := hD
  refine lv_iload hx hb dL_law_1848 (lv_at hl 1 rfl) ?_
  refine lv_icmp_eq (tgt := 1855) hx hb dL_law_1850 (by decide) (fun c1850 => ?_) (fun c1850 => ?_)
  · replace h := az_pos c1850 h
    refine lv_iload hx hb dL_law_1855 (lv_at hl 1 rfl) ?_
    refine lv_if_ne (tgt := 1872) hx hb dL_law_1857 (by decide) (fun c1857 => ?_) (fun c1857 => ?_)
    · replace h := az_neg c1857 h
      refine lv_goto (tgt := 2624) hx hb dL_law_1872 (by decide) ?_
      refine lv_iinc (v := y4 + (4 : Int32)) (lv' := [(4, .int (y4 + (4 : Int32))), (6, .int o1839.1), (5, .int o1827.1), (0, .ref (b)), (1, .ref (ax 0)), (2, .ref (ad 0)), (3, .ref (ob))]) hx hb dL_law_2624 hl (k := 6) rfl rfl (by decide) rfl (fun ls hl => ?_)
      refine lv_goto (tgt := 23) hx hb dL_law_2627 (by decide) ?_
      have hP : va_P g.1 az_cl (((az_ou g ob o1827.2.1 :: az_wF g ax an au aw o1827.2.2.1 o1827.2.2.2.1 o1827.2.2.2.2.1 o1827.2.2.2.2.2) ++ az_cM g ad (va_up Mo 2 o1839.2))) _ := hP
      have hD : va_D A (((az_ou g ob o1827.2.1 :: az_wF g ax an au aw o1827.2.2.1 o1827.2.2.2.1 o1827.2.2.2.2.1 o1827.2.2.2.2.2) ++ az_cM g ad (va_up Mo 2 o1839.2))) := hD
      exact ih _ _ _ _ _ _ _ _ _ _ _ _ (by omega) (by omega) h hP hD hS (lv_sub hl [3, 4, 5, 6, 0] rfl)
    · replace h := az_pos c1857 h
      refine lv_aload_n hx hb dL_law_1860 rfl (lv_at hl 5 rfl) ?_
      refine lv_iconst (v := (0 : Int32)) hx hb dL_law_1861 (by decide) ?_
      refine va_lald (D := g.1) (f := o1827.2.1) hx hb hK hP 0 2 rfl rfl (az_vin (by decide +kernel)) dL_law_1862 ?_
      refine lv_iload hx hb dL_law_1863 (lv_at hl 0 rfl) ?_
      refine lv_i2l (v := o1839.1.toInt64) hx hb dL_law_1865 rfl ?_
      refine W.lcmp hx hb dL_law_1866 ?_
      refine lv_if_eq (tgt := 1872) hx hb dL_law_1867 (by decide) (fun c1867 => ?_) (fun c1867 => ?_)
      · replace h := az_pos c1867 h
        refine lv_goto (tgt := 2624) hx hb dL_law_1872 (by decide) ?_
        refine lv_iinc (v := y4 + (4 : Int32)) (lv' := [(4, .int (y4 + (4 : Int32))), (6, .int o1839.1), (5, .int o1827.1), (0, .ref (b)), (1, .ref (ax 0)), (2, .ref (ad 0)), (3, .ref (ob))]) hx hb dL_law_2624 hl (k := 6) rfl rfl (by decide) rfl (fun ls hl => ?_)
        refine lv_goto (tgt := 23) hx hb dL_law_2627 (by decide) ?_
        have hP : va_P g.1 az_cl (((az_ou g ob o1827.2.1 :: az_wF g ax an au aw o1827.2.2.1 o1827.2.2.2.1 o1827.2.2.2.2.1 o1827.2.2.2.2.2) ++ az_cM g ad (va_up Mo 2 o1839.2))) _ := hP
        have hD : va_D A (((az_ou g ob o1827.2.1 :: az_wF g ax an au aw o1827.2.2.1 o1827.2.2.2.1 o1827.2.2.2.2.1 o1827.2.2.2.2.2) ++ az_cM g ad (va_up Mo 2 o1839.2))) := hD
        exact ih _ _ _ _ _ _ _ _ _ _ _ _ (by omega) (by omega) h hP hD hS (lv_sub hl [3, 4, 5, 6, 0] rfl)
      · replace h := az_neg c1867 h
        refine lv_iconst (v := (0 : Int32)) hx hb dL_law_1870 (by decide) ?_
        exact absurd (Option.some.inj h) (by decide)
  · replace h := az_neg c1850 h
    refine lv_iconst (v := (0 : Int32)) hx hb dL_law_1853 (by decide) ?_
    exact absurd (Option.some.inj h) (by decide)
set_option maxHeartbeats 8000000 in
set_option maxRecDepth 100000 in
theorem LWC30 {p : Program} {e : Env} {s : State} {m : MethodId} {below : List Frame} {meth : Method} {c : Code} (l : Launch) (hst : l.stackTraces = false) {b L : Nat} {xs : Nat → Int32} (hL : L ≤ 2048) (C0 : lw_At p s m meth c b L xs) (g : az_G) (sa : Nat → Nat) (ax an au : Nat → Nat) (aw : Nat → Nat → Nat) (ob : Nat) (ad : Nat → Nat) (hX : va_X b L xs s s.heap) (hbl : b < s.heap.size) (hbA : ¬ (fun q : Nat => s.heap.size ≤ q) b) (hcx : az_cx sa (fun q : Nat => s.heap.size ≤ q) s s.heap) (hA : ∀ q : Nat, s.heap.size ≤ q → (fun q : Nat => s.heap.size ≤ q) q) (hK : va_K g.1 az_cl (az_tys g) s) (hts : ∀ w ∈ wsL_law, w.before #[Value.ref b] s = true) (n : Nat) (ih : ∀ (cn sn : Nat) (V T : az_St) (S : Nat → az_St) (hs : Nat → Int32) (Mo : az_St) (f : Nat → Int64) (y4 : Int32) (H : Heap) (locs : List Loc) (ls : Array Slot), cn + 6 * n ≤ 5000 → sn + 36 * n ≤ 60000 → F_law_L n xs L V T S hs Mo f y4 = some 1 → va_P g.1 az_cl (((az_ou g ob f :: az_wF g ax an au aw V T S hs) ++ az_cM g ad Mo)) H → va_D (fun q : Nat => s.heap.size ≤ q) (((az_ou g ob f :: az_wF g ax an au aw V T S hs) ++ az_cM g ad Mo)) → va_S (fun q : Nat => s.heap.size ≤ q) s.heap H locs → lv_has ls 7 [(0, .ref (b)), (1, .ref (ax 0)), (2, .ref (ad 0)), (3, .ref (ob)), (4, .int y4)] → W p l e room_1 s m #[Value.ref b] below meth c H locs cn sn (lw_Z below #[Value.ref b] s) (F0 m 23 ls [])) : ∀ (cn sn : Nat) (V T : az_St) (S : Nat → az_St) (hs : Nat → Int32) (Mo : az_St) (f : Nat → Int64) (y4 : Int32) (H : Heap) (locs : List Loc) (ls : Array Slot), cn + 6 * (n + 1) ≤ 5000 → sn + 36 * (n + 1) ≤ 60000 → ¬ ((Int32.ofNat L) - (4 : Int32) < y4) → az_in y4 L = true → F_law_C30 (fun V T S hs Mo f y4 => F_law_L n xs L V T S hs Mo f y4) xs L V T S hs Mo f y4 = some 1 → va_P g.1 az_cl (((az_ou g ob f :: az_wF g ax an au aw V T S hs) ++ az_cM g ad Mo)) H → va_D (fun q : Nat => s.heap.size ≤ q) (((az_ou g ob f :: az_wF g ax an au aw V T S hs) ++ az_cM g ad Mo)) → va_S (fun q : Nat => s.heap.size ≤ q) s.heap H locs → lv_has ls 7 [(0, .ref (b)), (1, .ref (ax 0)), (2, .ref (ad 0)), (3, .ref (ob)), (4, .int y4)] → W p l e room_1 s m #[Value.ref b] below meth c H locs cn sn (lw_Z below #[Value.ref b] s) (F0 m 1875 ls []) := by
  intro cn sn V T S hs Mo f y4 H locs ls hcn hsn c29 i35 h hP hD hS hl
  obtain ⟨hx, hb, hr, hml, hown, -, -, -, hlocks, -⟩ := id C0
  unfold F_law_C30 at h
  obtain ⟨A, eA⟩ : ∃ A : Nat → Prop, A = (fun q : Nat => s.heap.size ≤ q) := ⟨_, rfl⟩
  rw [← eA] at hbA hcx hA hD hS ih
  refine lv_aload_n hx hb dL_law_1875 rfl (lv_at hl 1 rfl) ?_
  refine lv_aload_n hx hb dL_law_1876 rfl (lv_at hl 0 rfl) ?_
  refine lv_iload hx hb dL_law_1877 (lv_at hl 4 rfl) ?_
  refine lv_iconst (v := (1 : Int32)) hx hb dL_law_1879 (by decide) ?_
  refine lv_iadd hx hb dL_law_1880 ?_
  obtain ⟨i1881, h⟩ := az_ite h
  refine va_sld hx hb hX hbl hbA hS (az_vin i1881) dL_law_1881 ?_
  refine lv_aload_n hx hb dL_law_1882 rfl (lv_at hl 0 rfl) ?_
  refine lv_iload hx hb dL_law_1883 (lv_at hl 4 rfl) ?_
  refine lv_iconst (v := (2 : Int32)) hx hb dL_law_1885 (by decide) ?_
  refine lv_iadd hx hb dL_law_1886 ?_
  obtain ⟨i1887, h⟩ := az_ite h
  refine va_sld hx hb hX hbl hbA hS (az_vin i1887) dL_law_1887 ?_
  refine lv_aload_n hx hb dL_law_1888 rfl (lv_at hl 3 rfl) ?_
  obtain ⟨o1889, hc1889, h⟩ := az_bnd h
  refine az_callLW (wr := az_cM g ad Mo) (As := [.ref (ax 0), .int (xs (y4 + (1 : Int32)).toNatClampNeg), .int (xs (y4 + (2 : Int32)).toNatClampNeg), .ref (ob)]) (rest := []) ⟨hx, hb, hml, hown, hts⟩ hl.1 (kL_segment l hst g sa ax an au aw ob V T S hs f (xs (y4 + (1 : Int32)).toNatClampNeg) (xs (y4 + (2 : Int32)).toNatClampNeg) o1889 hc1889) (vx_cwSW (hh := [(0, 10, 13, 19), (0, 10, 17, 13)]) 4 hts gL_law_L_segment rfl rfl rfl (by decide +kernel) ⟨(Nat.le_of_ble_eq_true rfl), (Nat.le_of_ble_eq_true rfl)⟩) rfl hK hcx hP hD hS hA (Nat.le_of_ble_eq_true rfl) dL_law_1889 ⟨by show _ ≤ 601024; omega, by show _ ≤ 7293034; omega⟩ rfl (fun H locs hP hD hS => ?_)
  have hP : va_P g.1 az_cl (((az_ou g ob o1889.2.1 :: az_wF g ax an au aw o1889.2.2.1 o1889.2.2.2.1 o1889.2.2.2.2.1 o1889.2.2.2.2.2) ++ az_cM g ad Mo)) _ := hP
  have hD : va_D A (((az_ou g ob o1889.2.1 :: az_wF g ax an au aw o1889.2.2.1 o1889.2.2.2.1 o1889.2.2.2.2.1 o1889.2.2.2.2.2) ++ az_cM g ad Mo)) := hD
  refine lv_istore (lv' := [(5, .int o1889.1), (0, .ref (b)), (1, .ref (ax 0)), (2, .ref (ad 0)), (3, .ref (ob)), (4, .int y4)]) hx hb dL_law_1892 hl (by decide) rfl (fun ls hl => ?_)
  refine lv_aload_n hx hb dL_law_1894 rfl (lv_at hl 3 rfl) ?_
  refine lv_aload_n hx hb dL_law_1895 rfl (lv_at hl 1 rfl) ?_
  refine lv_iload hx hb dL_law_1896 (lv_at hl 5 rfl) ?_
  refine lv_iconst (v := (1 : Int32)) hx hb dL_law_1898 (by decide) ?_
  refine lv_iadd hx hb dL_law_1899 ?_
  refine va_sld hx hb hX hbl hbA hS (az_vin i1881) dL_law_1900 ?_
  refine lv_aload_n hx hb dL_law_1901 rfl (lv_at hl 1 rfl) ?_
  refine lv_iload hx hb dL_law_1902 (lv_at hl 5 rfl) ?_
  refine lv_iconst (v := (2 : Int32)) hx hb dL_law_1904 (by decide) ?_
  refine lv_iadd hx hb dL_law_1905 ?_
  refine va_sld hx hb hX hbl hbA hS (az_vin i1887) dL_law_1906 ?_
  obtain ⟨o1907, hc1907, h⟩ := az_bnd h
  refine az_callPi (wr := (az_ou g ob o1889.2.1 :: az_wF g ax an au aw o1889.2.2.1 o1889.2.2.2.1 o1889.2.2.2.2.1 o1889.2.2.2.2.2)) (w2 := ((az_ou g ob o1889.2.1 :: az_wF g ax an au aw o1889.2.2.1 o1889.2.2.2.1 o1889.2.2.2.2.1 o1889.2.2.2.2.2) ++ az_cM g ad (va_up Mo 2 o1907.2))) (As := [.int (xs (y4 + (1 : Int32)).toNatClampNeg), .int (xs (y4 + (2 : Int32)).toNatClampNeg)]) (rest := []) ⟨hx, hb, hml, hown, hts⟩ hl.1 (kX7_segment l g ad Mo (xs (y4 + (1 : Int32)).toNatClampNeg) (xs (y4 + (2 : Int32)).toNatClampNeg) o1907 hc1907) (cwV 2 hts gL_law_X7_segment rfl rfl rfl (by decide +kernel) ⟨(Nat.le_of_ble_eq_true rfl), (Nat.le_of_ble_eq_true rfl)⟩) rfl hK hP hD hS hA List.perm_append_comm List.perm_append_comm 0 rfl rfl rfl (Nat.le_of_ble_eq_true rfl) dL_law_1907 ⟨by show _ ≤ 601024; omega, by show _ ≤ 7293034; omega⟩ rfl (fun H locs hP hD hS => ?_)
  have hP : va_P g.1 az_cl (((az_ou g ob o1889.2.1 :: az_wF g ax an au aw o1889.2.2.1 o1889.2.2.2.1 o1889.2.2.2.2.1 o1889.2.2.2.2.2) ++ az_cM g ad (va_up Mo 2 o1907.2))) _ := hP
  have hD : va_D A (((az_ou g ob o1889.2.1 :: az_wF g ax an au aw o1889.2.2.1 o1889.2.2.2.1 o1889.2.2.2.2.1 o1889.2.2.2.2.2) ++ az_cM g ad (va_up Mo 2 o1907.2))) := hD
  refine lv_istore (lv' := [(6, .int o1907.1), (5, .int o1889.1), (0, .ref (b)), (1, .ref (ax 0)), (2, .ref (ad 0)), (3, .ref (ob)), (4, .int y4)]) hx hb dL_law_1910 hl (by decide) rfl (fun ls hl => ?_)
  refine lv_aload_n hx hb dL_law_1912 rfl (lv_at hl 4 rfl) ?_
  obtain ⟨o1913, hc1913, h⟩ := az_bnd h
  refine az_callPi (wr := (az_ou g ob o1889.2.1 :: az_wF g ax an au aw o1889.2.2.1 o1889.2.2.2.1 o1889.2.2.2.2.1 o1889.2.2.2.2.2)) (w2 := ((az_ou g ob o1889.2.1 :: az_wF g ax an au aw o1889.2.2.1 o1889.2.2.2.1 o1889.2.2.2.2.1 o1889.2.2.2.2.2) ++ az_cM g ad (va_up Mo 2 o1907.2))) (As := []) (rest := []) ⟨hx, hb, hml, hown, hts⟩ hl.1 (kX7_thrown l g ad (va_up Mo 2 o1907.2)  o1913 hc1913) (cwV 0 hts gL_law_X7_thrown rfl rfl rfl (by decide +kernel) ⟨(Nat.le_of_ble_eq_true rfl), (Nat.le_of_ble_eq_true rfl)⟩) rfl hK hP hD hS hA List.perm_append_comm List.perm_append_comm 0 rfl rfl rfl (Nat.le_of_ble_eq_true rfl) dL_law_1913 ⟨by show _ ≤ 601024; omega, by show _ ≤ 7293034; omega⟩ rfl (fun H locs hP hD hS => ?_)
  have hP : va_P g.1 az_cl (((az_ou g ob o1889.2.1 :: az_wF g ax an au aw o1889.2.2.1 o1889.2.2.2.1 o1889.2.2.2.2.1 o1889.2.2.2.2.2) ++ az_cM g ad (va_up Mo 2 o1907.2))) _ := hP
  have hD : va_D A (((az_ou g ob o1889.2.1 :: az_wF g ax an au aw o1889.2.2.1 o1889.2.2.2.1 o1889.2.2.2.2.1 o1889.2.2.2.2.2) ++ az_cM g ad (va_up Mo 2 o1907.2))) := hD
  refine lv_iload hx hb dL_law_1916 (lv_at hl 1 rfl) ?_
  refine lv_icmp_eq (tgt := 1923) hx hb dL_law_1918 (by decide) (fun c1918 => ?_) (fun c1918 => ?_)
  · replace h := az_pos c1918 h
    refine lv_iload hx hb dL_law_1923 (lv_at hl 1 rfl) ?_
    refine lv_if_ne (tgt := 1940) hx hb dL_law_1925 (by decide) (fun c1925 => ?_) (fun c1925 => ?_)
    · replace h := az_neg c1925 h
      refine lv_goto (tgt := 2624) hx hb dL_law_1940 (by decide) ?_
      refine lv_iinc (v := y4 + (4 : Int32)) (lv' := [(4, .int (y4 + (4 : Int32))), (6, .int o1907.1), (5, .int o1889.1), (0, .ref (b)), (1, .ref (ax 0)), (2, .ref (ad 0)), (3, .ref (ob))]) hx hb dL_law_2624 hl (k := 6) rfl rfl (by decide) rfl (fun ls hl => ?_)
      refine lv_goto (tgt := 23) hx hb dL_law_2627 (by decide) ?_
      have hP : va_P g.1 az_cl (((az_ou g ob o1889.2.1 :: az_wF g ax an au aw o1889.2.2.1 o1889.2.2.2.1 o1889.2.2.2.2.1 o1889.2.2.2.2.2) ++ az_cM g ad (va_up Mo 2 o1907.2))) _ := hP
      have hD : va_D A (((az_ou g ob o1889.2.1 :: az_wF g ax an au aw o1889.2.2.1 o1889.2.2.2.1 o1889.2.2.2.2.1 o1889.2.2.2.2.2) ++ az_cM g ad (va_up Mo 2 o1907.2))) := hD
      exact ih _ _ _ _ _ _ _ _ _ _ _ _ (by omega) (by omega) h hP hD hS (lv_sub hl [3, 4, 5, 6, 0] rfl)
    · replace h := az_pos c1925 h
      refine lv_aload_n hx hb dL_law_1928 rfl (lv_at hl 5 rfl) ?_
      refine lv_iconst (v := (0 : Int32)) hx hb dL_law_1929 (by decide) ?_
      refine va_lald (D := g.1) (f := o1889.2.1) hx hb hK hP 0 2 rfl rfl (az_vin (by decide +kernel)) dL_law_1930 ?_
      refine lv_iload hx hb dL_law_1931 (lv_at hl 0 rfl) ?_
      refine lv_i2l (v := o1907.1.toInt64) hx hb dL_law_1933 rfl ?_
      refine W.lcmp hx hb dL_law_1934 ?_
      refine lv_if_eq (tgt := 1940) hx hb dL_law_1935 (by decide) (fun c1935 => ?_) (fun c1935 => ?_)
      · replace h := az_pos c1935 h
        refine lv_goto (tgt := 2624) hx hb dL_law_1940 (by decide) ?_
        refine lv_iinc (v := y4 + (4 : Int32)) (lv' := [(4, .int (y4 + (4 : Int32))), (6, .int o1907.1), (5, .int o1889.1), (0, .ref (b)), (1, .ref (ax 0)), (2, .ref (ad 0)), (3, .ref (ob))]) hx hb dL_law_2624 hl (k := 6) rfl rfl (by decide) rfl (fun ls hl => ?_)
        refine lv_goto (tgt := 23) hx hb dL_law_2627 (by decide) ?_
        have hP : va_P g.1 az_cl (((az_ou g ob o1889.2.1 :: az_wF g ax an au aw o1889.2.2.1 o1889.2.2.2.1 o1889.2.2.2.2.1 o1889.2.2.2.2.2) ++ az_cM g ad (va_up Mo 2 o1907.2))) _ := hP
        have hD : va_D A (((az_ou g ob o1889.2.1 :: az_wF g ax an au aw o1889.2.2.1 o1889.2.2.2.1 o1889.2.2.2.2.1 o1889.2.2.2.2.2) ++ az_cM g ad (va_up Mo 2 o1907.2))) := hD
        exact ih _ _ _ _ _ _ _ _ _ _ _ _ (by omega) (by omega) h hP hD hS (lv_sub hl [3, 4, 5, 6, 0] rfl)
      · replace h := az_neg c1935 h
        refine lv_iconst (v := (0 : Int32)) hx hb dL_law_1938 (by decide) ?_
        exact absurd (Option.some.inj h) (by decide)
  · replace h := az_neg c1918 h
    refine lv_iconst (v := (0 : Int32)) hx hb dL_law_1921 (by decide) ?_
    exact absurd (Option.some.inj h) (by decide)
set_option maxHeartbeats 8000000 in
set_option maxRecDepth 100000 in
theorem LWC31 {p : Program} {e : Env} {s : State} {m : MethodId} {below : List Frame} {meth : Method} {c : Code} (l : Launch) (hst : l.stackTraces = false) {b L : Nat} {xs : Nat → Int32} (hL : L ≤ 2048) (C0 : lw_At p s m meth c b L xs) (g : az_G) (sa : Nat → Nat) (ax an au : Nat → Nat) (aw : Nat → Nat → Nat) (ob : Nat) (ad : Nat → Nat) (hX : va_X b L xs s s.heap) (hbl : b < s.heap.size) (hbA : ¬ (fun q : Nat => s.heap.size ≤ q) b) (hcx : az_cx sa (fun q : Nat => s.heap.size ≤ q) s s.heap) (hA : ∀ q : Nat, s.heap.size ≤ q → (fun q : Nat => s.heap.size ≤ q) q) (hK : va_K g.1 az_cl (az_tys g) s) (hts : ∀ w ∈ wsL_law, w.before #[Value.ref b] s = true) (n : Nat) (ih : ∀ (cn sn : Nat) (V T : az_St) (S : Nat → az_St) (hs : Nat → Int32) (Mo : az_St) (f : Nat → Int64) (y4 : Int32) (H : Heap) (locs : List Loc) (ls : Array Slot), cn + 6 * n ≤ 5000 → sn + 36 * n ≤ 60000 → F_law_L n xs L V T S hs Mo f y4 = some 1 → va_P g.1 az_cl (((az_ou g ob f :: az_wF g ax an au aw V T S hs) ++ az_cM g ad Mo)) H → va_D (fun q : Nat => s.heap.size ≤ q) (((az_ou g ob f :: az_wF g ax an au aw V T S hs) ++ az_cM g ad Mo)) → va_S (fun q : Nat => s.heap.size ≤ q) s.heap H locs → lv_has ls 7 [(0, .ref (b)), (1, .ref (ax 0)), (2, .ref (ad 0)), (3, .ref (ob)), (4, .int y4)] → W p l e room_1 s m #[Value.ref b] below meth c H locs cn sn (lw_Z below #[Value.ref b] s) (F0 m 23 ls [])) : ∀ (cn sn : Nat) (V T : az_St) (S : Nat → az_St) (hs : Nat → Int32) (Mo : az_St) (f : Nat → Int64) (y4 : Int32) (H : Heap) (locs : List Loc) (ls : Array Slot), cn + 6 * (n + 1) ≤ 5000 → sn + 36 * (n + 1) ≤ 60000 → ¬ ((Int32.ofNat L) - (4 : Int32) < y4) → az_in y4 L = true → F_law_C31 (fun V T S hs Mo f y4 => F_law_L n xs L V T S hs Mo f y4) xs L V T S hs Mo f y4 = some 1 → va_P g.1 az_cl (((az_ou g ob f :: az_wF g ax an au aw V T S hs) ++ az_cM g ad Mo)) H → va_D (fun q : Nat => s.heap.size ≤ q) (((az_ou g ob f :: az_wF g ax an au aw V T S hs) ++ az_cM g ad Mo)) → va_S (fun q : Nat => s.heap.size ≤ q) s.heap H locs → lv_has ls 7 [(0, .ref (b)), (1, .ref (ax 0)), (2, .ref (ad 0)), (3, .ref (ob)), (4, .int y4)] → W p l e room_1 s m #[Value.ref b] below meth c H locs cn sn (lw_Z below #[Value.ref b] s) (F0 m 1943 ls []) := by
  intro cn sn V T S hs Mo f y4 H locs ls hcn hsn c29 i35 h hP hD hS hl
  obtain ⟨hx, hb, hr, hml, hown, -, -, -, hlocks, -⟩ := id C0
  unfold F_law_C31 at h
  obtain ⟨A, eA⟩ : ∃ A : Nat → Prop, A = (fun q : Nat => s.heap.size ≤ q) := ⟨_, rfl⟩
  rw [← eA] at hbA hcx hA hD hS ih
  refine lv_aload_n hx hb dL_law_1943 rfl (lv_at hl 1 rfl) ?_
  refine lv_aload_n hx hb dL_law_1944 rfl (lv_at hl 0 rfl) ?_
  refine lv_iload hx hb dL_law_1945 (lv_at hl 4 rfl) ?_
  refine lv_iconst (v := (1 : Int32)) hx hb dL_law_1947 (by decide) ?_
  refine lv_iadd hx hb dL_law_1948 ?_
  obtain ⟨i1949, h⟩ := az_ite h
  refine va_sld hx hb hX hbl hbA hS (az_vin i1949) dL_law_1949 ?_
  refine lv_aload_n hx hb dL_law_1950 rfl (lv_at hl 0 rfl) ?_
  refine lv_iload hx hb dL_law_1951 (lv_at hl 4 rfl) ?_
  refine lv_iconst (v := (2 : Int32)) hx hb dL_law_1953 (by decide) ?_
  refine lv_iadd hx hb dL_law_1954 ?_
  obtain ⟨i1955, h⟩ := az_ite h
  refine va_sld hx hb hX hbl hbA hS (az_vin i1955) dL_law_1955 ?_
  refine lv_if_eq (tgt := 1963) hx hb dL_law_1956 (by decide) (fun c1956 => ?_) (fun c1956 => ?_)
  · replace h := az_pos c1956 h
    refine lv_iconst (v := (0 : Int32)) hx hb dL_law_1963 (by decide) ?_
    refine lv_aload_n hx hb dL_law_1964 rfl (lv_at hl 3 rfl) ?_
    obtain ⟨o1965, hc1965, h⟩ := az_bnd h
    refine az_callLW (wr := az_cM g ad Mo) (As := [.ref (ax 0), .int (xs (y4 + (1 : Int32)).toNatClampNeg), .int (0 : Int32), .ref (ob)]) (rest := []) ⟨hx, hb, hml, hown, hts⟩ hl.1 (kL_meanAge l hst g sa ax an au aw ob V T S hs f (xs (y4 + (1 : Int32)).toNatClampNeg) (0 : Int32) o1965 hc1965) (vx_cwSW (hh := [(0, 10, 13, 19), (0, 10, 17, 27)]) 4 hts gL_law_L_meanAge rfl rfl rfl (by decide +kernel) ⟨(Nat.le_of_ble_eq_true rfl), (Nat.le_of_ble_eq_true rfl)⟩) rfl hK hcx hP hD hS hA (Nat.le_of_ble_eq_true rfl) dL_law_1965 ⟨by show _ ≤ 601024; omega, by show _ ≤ 7293034; omega⟩ rfl (fun H locs hP hD hS => ?_)
    have hP : va_P g.1 az_cl (((az_ou g ob o1965.2.1 :: az_wF g ax an au aw o1965.2.2.1 o1965.2.2.2.1 o1965.2.2.2.2.1 o1965.2.2.2.2.2) ++ az_cM g ad Mo)) _ := hP
    have hD : va_D A (((az_ou g ob o1965.2.1 :: az_wF g ax an au aw o1965.2.2.1 o1965.2.2.2.1 o1965.2.2.2.2.1 o1965.2.2.2.2.2) ++ az_cM g ad Mo)) := hD
    refine lv_istore (lv' := [(5, .int o1965.1), (0, .ref (b)), (1, .ref (ax 0)), (2, .ref (ad 0)), (3, .ref (ob)), (4, .int y4)]) hx hb dL_law_1968 hl (by decide) rfl (fun ls hl => ?_)
    refine lv_aload_n hx hb dL_law_1970 rfl (lv_at hl 3 rfl) ?_
    refine lv_aload_n hx hb dL_law_1971 rfl (lv_at hl 1 rfl) ?_
    refine lv_iload hx hb dL_law_1972 (lv_at hl 5 rfl) ?_
    refine lv_iconst (v := (1 : Int32)) hx hb dL_law_1974 (by decide) ?_
    refine lv_iadd hx hb dL_law_1975 ?_
    refine va_sld hx hb hX hbl hbA hS (az_vin i1949) dL_law_1976 ?_
    refine lv_aload_n hx hb dL_law_1977 rfl (lv_at hl 1 rfl) ?_
    refine lv_iload hx hb dL_law_1978 (lv_at hl 5 rfl) ?_
    refine lv_iconst (v := (2 : Int32)) hx hb dL_law_1980 (by decide) ?_
    refine lv_iadd hx hb dL_law_1981 ?_
    refine va_sld hx hb hX hbl hbA hS (az_vin i1955) dL_law_1982 ?_
    refine lv_if_eq (tgt := 1990) hx hb dL_law_1983 (by decide) (fun _ => ?_) (fun c9 => absurd c1956 c9)
    refine lv_iconst (v := (0 : Int32)) hx hb dL_law_1990 (by decide) ?_
    obtain ⟨o1991, hc1991, h⟩ := az_bnd h
    refine az_callPi (wr := (az_ou g ob o1965.2.1 :: az_wF g ax an au aw o1965.2.2.1 o1965.2.2.2.1 o1965.2.2.2.2.1 o1965.2.2.2.2.2)) (w2 := ((az_ou g ob o1965.2.1 :: az_wF g ax an au aw o1965.2.2.1 o1965.2.2.2.1 o1965.2.2.2.2.1 o1965.2.2.2.2.2) ++ az_cM g ad (va_up Mo 2 o1991.2))) (As := [.int (xs (y4 + (1 : Int32)).toNatClampNeg), .int (0 : Int32)]) (rest := []) ⟨hx, hb, hml, hown, hts⟩ hl.1 (kX7_meanAge l g ad Mo (xs (y4 + (1 : Int32)).toNatClampNeg) (0 : Int32) o1991 hc1991) (cwV 2 hts gL_law_X7_meanAge rfl rfl rfl (by decide +kernel) ⟨(Nat.le_of_ble_eq_true rfl), (Nat.le_of_ble_eq_true rfl)⟩) rfl hK hP hD hS hA List.perm_append_comm List.perm_append_comm 0 rfl rfl rfl (Nat.le_of_ble_eq_true rfl) dL_law_1991 ⟨by show _ ≤ 601024; omega, by show _ ≤ 7293034; omega⟩ rfl (fun H locs hP hD hS => ?_)
    have hP : va_P g.1 az_cl (((az_ou g ob o1965.2.1 :: az_wF g ax an au aw o1965.2.2.1 o1965.2.2.2.1 o1965.2.2.2.2.1 o1965.2.2.2.2.2) ++ az_cM g ad (va_up Mo 2 o1991.2))) _ := hP
    have hD : va_D A (((az_ou g ob o1965.2.1 :: az_wF g ax an au aw o1965.2.2.1 o1965.2.2.2.1 o1965.2.2.2.2.1 o1965.2.2.2.2.2) ++ az_cM g ad (va_up Mo 2 o1991.2))) := hD
    refine lv_istore (lv' := [(6, .int o1991.1), (5, .int o1965.1), (0, .ref (b)), (1, .ref (ax 0)), (2, .ref (ad 0)), (3, .ref (ob)), (4, .int y4)]) hx hb dL_law_1994 hl (by decide) rfl (fun ls hl => ?_)
    refine lv_aload_n hx hb dL_law_1996 rfl (lv_at hl 4 rfl) ?_
    obtain ⟨o1997, hc1997, h⟩ := az_bnd h
    refine az_callPi (wr := (az_ou g ob o1965.2.1 :: az_wF g ax an au aw o1965.2.2.1 o1965.2.2.2.1 o1965.2.2.2.2.1 o1965.2.2.2.2.2)) (w2 := ((az_ou g ob o1965.2.1 :: az_wF g ax an au aw o1965.2.2.1 o1965.2.2.2.1 o1965.2.2.2.2.1 o1965.2.2.2.2.2) ++ az_cM g ad (va_up Mo 2 o1991.2))) (As := []) (rest := []) ⟨hx, hb, hml, hown, hts⟩ hl.1 (kX7_thrown l g ad (va_up Mo 2 o1991.2)  o1997 hc1997) (cwV 0 hts gL_law_X7_thrown rfl rfl rfl (by decide +kernel) ⟨(Nat.le_of_ble_eq_true rfl), (Nat.le_of_ble_eq_true rfl)⟩) rfl hK hP hD hS hA List.perm_append_comm List.perm_append_comm 0 rfl rfl rfl (Nat.le_of_ble_eq_true rfl) dL_law_1997 ⟨by show _ ≤ 601024; omega, by show _ ≤ 7293034; omega⟩ rfl (fun H locs hP hD hS => ?_)
    have hP : va_P g.1 az_cl (((az_ou g ob o1965.2.1 :: az_wF g ax an au aw o1965.2.2.1 o1965.2.2.2.1 o1965.2.2.2.2.1 o1965.2.2.2.2.2) ++ az_cM g ad (va_up Mo 2 o1991.2))) _ := hP
    have hD : va_D A (((az_ou g ob o1965.2.1 :: az_wF g ax an au aw o1965.2.2.1 o1965.2.2.2.1 o1965.2.2.2.2.1 o1965.2.2.2.2.2) ++ az_cM g ad (va_up Mo 2 o1991.2))) := hD
    refine lv_iload hx hb dL_law_2000 (lv_at hl 1 rfl) ?_
    refine lv_icmp_eq (tgt := 2007) hx hb dL_law_2002 (by decide) (fun c2002 => ?_) (fun c2002 => ?_)
    · replace h := az_pos c2002 h
      refine lv_iload hx hb dL_law_2007 (lv_at hl 1 rfl) ?_
      refine lv_if_ne (tgt := 2024) hx hb dL_law_2009 (by decide) (fun c2009 => ?_) (fun c2009 => ?_)
      · replace h := az_neg c2009 h
        refine lv_goto (tgt := 2624) hx hb dL_law_2024 (by decide) ?_
        refine lv_iinc (v := y4 + (4 : Int32)) (lv' := [(4, .int (y4 + (4 : Int32))), (6, .int o1991.1), (5, .int o1965.1), (0, .ref (b)), (1, .ref (ax 0)), (2, .ref (ad 0)), (3, .ref (ob))]) hx hb dL_law_2624 hl (k := 6) rfl rfl (by decide) rfl (fun ls hl => ?_)
        refine lv_goto (tgt := 23) hx hb dL_law_2627 (by decide) ?_
        have hP : va_P g.1 az_cl (((az_ou g ob o1965.2.1 :: az_wF g ax an au aw o1965.2.2.1 o1965.2.2.2.1 o1965.2.2.2.2.1 o1965.2.2.2.2.2) ++ az_cM g ad (va_up Mo 2 o1991.2))) _ := hP
        have hD : va_D A (((az_ou g ob o1965.2.1 :: az_wF g ax an au aw o1965.2.2.1 o1965.2.2.2.1 o1965.2.2.2.2.1 o1965.2.2.2.2.2) ++ az_cM g ad (va_up Mo 2 o1991.2))) := hD
        exact ih _ _ _ _ _ _ _ _ _ _ _ _ (by omega) (by omega) h hP hD hS (lv_sub hl [3, 4, 5, 6, 0] rfl)
      · replace h := az_pos c2009 h
        refine lv_aload_n hx hb dL_law_2012 rfl (lv_at hl 5 rfl) ?_
        refine lv_iconst (v := (0 : Int32)) hx hb dL_law_2013 (by decide) ?_
        refine va_lald (D := g.1) (f := o1965.2.1) hx hb hK hP 0 2 rfl rfl (az_vin (by decide +kernel)) dL_law_2014 ?_
        refine lv_iload hx hb dL_law_2015 (lv_at hl 0 rfl) ?_
        refine lv_i2l (v := o1991.1.toInt64) hx hb dL_law_2017 rfl ?_
        refine W.lcmp hx hb dL_law_2018 ?_
        refine lv_if_eq (tgt := 2024) hx hb dL_law_2019 (by decide) (fun c2019 => ?_) (fun c2019 => ?_)
        · replace h := az_pos c2019 h
          refine lv_goto (tgt := 2624) hx hb dL_law_2024 (by decide) ?_
          refine lv_iinc (v := y4 + (4 : Int32)) (lv' := [(4, .int (y4 + (4 : Int32))), (6, .int o1991.1), (5, .int o1965.1), (0, .ref (b)), (1, .ref (ax 0)), (2, .ref (ad 0)), (3, .ref (ob))]) hx hb dL_law_2624 hl (k := 6) rfl rfl (by decide) rfl (fun ls hl => ?_)
          refine lv_goto (tgt := 23) hx hb dL_law_2627 (by decide) ?_
          have hP : va_P g.1 az_cl (((az_ou g ob o1965.2.1 :: az_wF g ax an au aw o1965.2.2.1 o1965.2.2.2.1 o1965.2.2.2.2.1 o1965.2.2.2.2.2) ++ az_cM g ad (va_up Mo 2 o1991.2))) _ := hP
          have hD : va_D A (((az_ou g ob o1965.2.1 :: az_wF g ax an au aw o1965.2.2.1 o1965.2.2.2.1 o1965.2.2.2.2.1 o1965.2.2.2.2.2) ++ az_cM g ad (va_up Mo 2 o1991.2))) := hD
          exact ih _ _ _ _ _ _ _ _ _ _ _ _ (by omega) (by omega) h hP hD hS (lv_sub hl [3, 4, 5, 6, 0] rfl)
        · replace h := az_neg c2019 h
          refine lv_iconst (v := (0 : Int32)) hx hb dL_law_2022 (by decide) ?_
          exact absurd (Option.some.inj h) (by decide)
    · replace h := az_neg c2002 h
      refine lv_iconst (v := (0 : Int32)) hx hb dL_law_2005 (by decide) ?_
      exact absurd (Option.some.inj h) (by decide)
  · replace h := az_neg c1956 h
    refine lv_iconst (v := (1 : Int32)) hx hb dL_law_1959 (by decide) ?_
    refine lv_goto (tgt := 1964) hx hb dL_law_1960 (by decide) ?_
    refine lv_aload_n hx hb dL_law_1964 rfl (lv_at hl 3 rfl) ?_
    obtain ⟨o1965, hc1965, h⟩ := az_bnd h
    refine az_callLW (wr := az_cM g ad Mo) (As := [.ref (ax 0), .int (xs (y4 + (1 : Int32)).toNatClampNeg), .int (1 : Int32), .ref (ob)]) (rest := []) ⟨hx, hb, hml, hown, hts⟩ hl.1 (kL_meanAge l hst g sa ax an au aw ob V T S hs f (xs (y4 + (1 : Int32)).toNatClampNeg) (1 : Int32) o1965 hc1965) (vx_cwSW (hh := [(0, 10, 13, 19), (0, 10, 17, 27)]) 4 hts gL_law_L_meanAge rfl rfl rfl (by decide +kernel) ⟨(Nat.le_of_ble_eq_true rfl), (Nat.le_of_ble_eq_true rfl)⟩) rfl hK hcx hP hD hS hA (Nat.le_of_ble_eq_true rfl) dL_law_1965 ⟨by show _ ≤ 601024; omega, by show _ ≤ 7293034; omega⟩ rfl (fun H locs hP hD hS => ?_)
    have hP : va_P g.1 az_cl (((az_ou g ob o1965.2.1 :: az_wF g ax an au aw o1965.2.2.1 o1965.2.2.2.1 o1965.2.2.2.2.1 o1965.2.2.2.2.2) ++ az_cM g ad Mo)) _ := hP
    have hD : va_D A (((az_ou g ob o1965.2.1 :: az_wF g ax an au aw o1965.2.2.1 o1965.2.2.2.1 o1965.2.2.2.2.1 o1965.2.2.2.2.2) ++ az_cM g ad Mo)) := hD
    refine lv_istore (lv' := [(5, .int o1965.1), (0, .ref (b)), (1, .ref (ax 0)), (2, .ref (ad 0)), (3, .ref (ob)), (4, .int y4)]) hx hb dL_law_1968 hl (by decide) rfl (fun ls hl => ?_)
    refine lv_aload_n hx hb dL_law_1970 rfl (lv_at hl 3 rfl) ?_
    refine lv_aload_n hx hb dL_law_1971 rfl (lv_at hl 1 rfl) ?_
    refine lv_iload hx hb dL_law_1972 (lv_at hl 5 rfl) ?_
    refine lv_iconst (v := (1 : Int32)) hx hb dL_law_1974 (by decide) ?_
    refine lv_iadd hx hb dL_law_1975 ?_
    refine va_sld hx hb hX hbl hbA hS (az_vin i1949) dL_law_1976 ?_
    refine lv_aload_n hx hb dL_law_1977 rfl (lv_at hl 1 rfl) ?_
    refine lv_iload hx hb dL_law_1978 (lv_at hl 5 rfl) ?_
    refine lv_iconst (v := (2 : Int32)) hx hb dL_law_1980 (by decide) ?_
    refine lv_iadd hx hb dL_law_1981 ?_
    refine va_sld hx hb hX hbl hbA hS (az_vin i1955) dL_law_1982 ?_
    refine lv_if_eq (tgt := 1990) hx hb dL_law_1983 (by decide) (fun c9 => absurd c9 c1956) (fun _ => ?_)
    refine lv_iconst (v := (1 : Int32)) hx hb dL_law_1986 (by decide) ?_
    refine lv_goto (tgt := 1991) hx hb dL_law_1987 (by decide) ?_
    obtain ⟨o1991, hc1991, h⟩ := az_bnd h
    refine az_callPi (wr := (az_ou g ob o1965.2.1 :: az_wF g ax an au aw o1965.2.2.1 o1965.2.2.2.1 o1965.2.2.2.2.1 o1965.2.2.2.2.2)) (w2 := ((az_ou g ob o1965.2.1 :: az_wF g ax an au aw o1965.2.2.1 o1965.2.2.2.1 o1965.2.2.2.2.1 o1965.2.2.2.2.2) ++ az_cM g ad (va_up Mo 2 o1991.2))) (As := [.int (xs (y4 + (1 : Int32)).toNatClampNeg), .int (1 : Int32)]) (rest := []) ⟨hx, hb, hml, hown, hts⟩ hl.1 (kX7_meanAge l g ad Mo (xs (y4 + (1 : Int32)).toNatClampNeg) (1 : Int32) o1991 hc1991) (cwV 2 hts gL_law_X7_meanAge rfl rfl rfl (by decide +kernel) ⟨(Nat.le_of_ble_eq_true rfl), (Nat.le_of_ble_eq_true rfl)⟩) rfl hK hP hD hS hA List.perm_append_comm List.perm_append_comm 0 rfl rfl rfl (Nat.le_of_ble_eq_true rfl) dL_law_1991 ⟨by show _ ≤ 601024; omega, by show _ ≤ 7293034; omega⟩ rfl (fun H locs hP hD hS => ?_)
    have hP : va_P g.1 az_cl (((az_ou g ob o1965.2.1 :: az_wF g ax an au aw o1965.2.2.1 o1965.2.2.2.1 o1965.2.2.2.2.1 o1965.2.2.2.2.2) ++ az_cM g ad (va_up Mo 2 o1991.2))) _ := hP
    have hD : va_D A (((az_ou g ob o1965.2.1 :: az_wF g ax an au aw o1965.2.2.1 o1965.2.2.2.1 o1965.2.2.2.2.1 o1965.2.2.2.2.2) ++ az_cM g ad (va_up Mo 2 o1991.2))) := hD
    refine lv_istore (lv' := [(6, .int o1991.1), (5, .int o1965.1), (0, .ref (b)), (1, .ref (ax 0)), (2, .ref (ad 0)), (3, .ref (ob)), (4, .int y4)]) hx hb dL_law_1994 hl (by decide) rfl (fun ls hl => ?_)
    refine lv_aload_n hx hb dL_law_1996 rfl (lv_at hl 4 rfl) ?_
    obtain ⟨o1997, hc1997, h⟩ := az_bnd h
    refine az_callPi (wr := (az_ou g ob o1965.2.1 :: az_wF g ax an au aw o1965.2.2.1 o1965.2.2.2.1 o1965.2.2.2.2.1 o1965.2.2.2.2.2)) (w2 := ((az_ou g ob o1965.2.1 :: az_wF g ax an au aw o1965.2.2.1 o1965.2.2.2.1 o1965.2.2.2.2.1 o1965.2.2.2.2.2) ++ az_cM g ad (va_up Mo 2 o1991.2))) (As := []) (rest := []) ⟨hx, hb, hml, hown, hts⟩ hl.1 (kX7_thrown l g ad (va_up Mo 2 o1991.2)  o1997 hc1997) (cwV 0 hts gL_law_X7_thrown rfl rfl rfl (by decide +kernel) ⟨(Nat.le_of_ble_eq_true rfl), (Nat.le_of_ble_eq_true rfl)⟩) rfl hK hP hD hS hA List.perm_append_comm List.perm_append_comm 0 rfl rfl rfl (Nat.le_of_ble_eq_true rfl) dL_law_1997 ⟨by show _ ≤ 601024; omega, by show _ ≤ 7293034; omega⟩ rfl (fun H locs hP hD hS => ?_)
    have hP : va_P g.1 az_cl (((az_ou g ob o1965.2.1 :: az_wF g ax an au aw o1965.2.2.1 o1965.2.2.2.1 o1965.2.2.2.2.1 o1965.2.2.2.2.2) ++ az_cM g ad (va_up Mo 2 o1991.2))) _ := hP
    have hD : va_D A (((az_ou g ob o1965.2.1 :: az_wF g ax an au aw o1965.2.2.1 o1965.2.2.2.1 o1965.2.2.2.2.1 o1965.2.2.2.2.2) ++ az_cM g ad (va_up Mo 2 o1991.2))) := hD
    refine lv_iload hx hb dL_law_2000 (lv_at hl 1 rfl) ?_
    refine lv_icmp_eq (tgt := 2007) hx hb dL_law_2002 (by decide) (fun c2002 => ?_) (fun c2002 => ?_)
    · replace h := az_pos c2002 h
      refine lv_iload hx hb dL_law_2007 (lv_at hl 1 rfl) ?_
      refine lv_if_ne (tgt := 2024) hx hb dL_law_2009 (by decide) (fun c2009 => ?_) (fun c2009 => ?_)
      · replace h := az_neg c2009 h
        refine lv_goto (tgt := 2624) hx hb dL_law_2024 (by decide) ?_
        refine lv_iinc (v := y4 + (4 : Int32)) (lv' := [(4, .int (y4 + (4 : Int32))), (6, .int o1991.1), (5, .int o1965.1), (0, .ref (b)), (1, .ref (ax 0)), (2, .ref (ad 0)), (3, .ref (ob))]) hx hb dL_law_2624 hl (k := 6) rfl rfl (by decide) rfl (fun ls hl => ?_)
        refine lv_goto (tgt := 23) hx hb dL_law_2627 (by decide) ?_
        have hP : va_P g.1 az_cl (((az_ou g ob o1965.2.1 :: az_wF g ax an au aw o1965.2.2.1 o1965.2.2.2.1 o1965.2.2.2.2.1 o1965.2.2.2.2.2) ++ az_cM g ad (va_up Mo 2 o1991.2))) _ := hP
        have hD : va_D A (((az_ou g ob o1965.2.1 :: az_wF g ax an au aw o1965.2.2.1 o1965.2.2.2.1 o1965.2.2.2.2.1 o1965.2.2.2.2.2) ++ az_cM g ad (va_up Mo 2 o1991.2))) := hD
        exact ih _ _ _ _ _ _ _ _ _ _ _ _ (by omega) (by omega) h hP hD hS (lv_sub hl [3, 4, 5, 6, 0] rfl)
      · replace h := az_pos c2009 h
        refine lv_aload_n hx hb dL_law_2012 rfl (lv_at hl 5 rfl) ?_
        refine lv_iconst (v := (0 : Int32)) hx hb dL_law_2013 (by decide) ?_
        refine va_lald (D := g.1) (f := o1965.2.1) hx hb hK hP 0 2 rfl rfl (az_vin (by decide +kernel)) dL_law_2014 ?_
        refine lv_iload hx hb dL_law_2015 (lv_at hl 0 rfl) ?_
        refine lv_i2l (v := o1991.1.toInt64) hx hb dL_law_2017 rfl ?_
        refine W.lcmp hx hb dL_law_2018 ?_
        refine lv_if_eq (tgt := 2024) hx hb dL_law_2019 (by decide) (fun c2019 => ?_) (fun c2019 => ?_)
        · replace h := az_pos c2019 h
          refine lv_goto (tgt := 2624) hx hb dL_law_2024 (by decide) ?_
          refine lv_iinc (v := y4 + (4 : Int32)) (lv' := [(4, .int (y4 + (4 : Int32))), (6, .int o1991.1), (5, .int o1965.1), (0, .ref (b)), (1, .ref (ax 0)), (2, .ref (ad 0)), (3, .ref (ob))]) hx hb dL_law_2624 hl (k := 6) rfl rfl (by decide) rfl (fun ls hl => ?_)
          refine lv_goto (tgt := 23) hx hb dL_law_2627 (by decide) ?_
          have hP : va_P g.1 az_cl (((az_ou g ob o1965.2.1 :: az_wF g ax an au aw o1965.2.2.1 o1965.2.2.2.1 o1965.2.2.2.2.1 o1965.2.2.2.2.2) ++ az_cM g ad (va_up Mo 2 o1991.2))) _ := hP
          have hD : va_D A (((az_ou g ob o1965.2.1 :: az_wF g ax an au aw o1965.2.2.1 o1965.2.2.2.1 o1965.2.2.2.2.1 o1965.2.2.2.2.2) ++ az_cM g ad (va_up Mo 2 o1991.2))) := hD
          exact ih _ _ _ _ _ _ _ _ _ _ _ _ (by omega) (by omega) h hP hD hS (lv_sub hl [3, 4, 5, 6, 0] rfl)
        · replace h := az_neg c2019 h
          refine lv_iconst (v := (0 : Int32)) hx hb dL_law_2022 (by decide) ?_
          exact absurd (Option.some.inj h) (by decide)
    · replace h := az_neg c2002 h
      refine lv_iconst (v := (0 : Int32)) hx hb dL_law_2005 (by decide) ?_
      exact absurd (Option.some.inj h) (by decide)
set_option maxHeartbeats 8000000 in
set_option maxRecDepth 100000 in
theorem LWC32 {p : Program} {e : Env} {s : State} {m : MethodId} {below : List Frame} {meth : Method} {c : Code} (l : Launch) (hst : l.stackTraces = false) {b L : Nat} {xs : Nat → Int32} (hL : L ≤ 2048) (C0 : lw_At p s m meth c b L xs) (g : az_G) (sa : Nat → Nat) (ax an au : Nat → Nat) (aw : Nat → Nat → Nat) (ob : Nat) (ad : Nat → Nat) (hX : va_X b L xs s s.heap) (hbl : b < s.heap.size) (hbA : ¬ (fun q : Nat => s.heap.size ≤ q) b) (hcx : az_cx sa (fun q : Nat => s.heap.size ≤ q) s s.heap) (hA : ∀ q : Nat, s.heap.size ≤ q → (fun q : Nat => s.heap.size ≤ q) q) (hK : va_K g.1 az_cl (az_tys g) s) (hts : ∀ w ∈ wsL_law, w.before #[Value.ref b] s = true) (n : Nat) (ih : ∀ (cn sn : Nat) (V T : az_St) (S : Nat → az_St) (hs : Nat → Int32) (Mo : az_St) (f : Nat → Int64) (y4 : Int32) (H : Heap) (locs : List Loc) (ls : Array Slot), cn + 6 * n ≤ 5000 → sn + 36 * n ≤ 60000 → F_law_L n xs L V T S hs Mo f y4 = some 1 → va_P g.1 az_cl (((az_ou g ob f :: az_wF g ax an au aw V T S hs) ++ az_cM g ad Mo)) H → va_D (fun q : Nat => s.heap.size ≤ q) (((az_ou g ob f :: az_wF g ax an au aw V T S hs) ++ az_cM g ad Mo)) → va_S (fun q : Nat => s.heap.size ≤ q) s.heap H locs → lv_has ls 7 [(0, .ref (b)), (1, .ref (ax 0)), (2, .ref (ad 0)), (3, .ref (ob)), (4, .int y4)] → W p l e room_1 s m #[Value.ref b] below meth c H locs cn sn (lw_Z below #[Value.ref b] s) (F0 m 23 ls [])) : ∀ (cn sn : Nat) (V T : az_St) (S : Nat → az_St) (hs : Nat → Int32) (Mo : az_St) (f : Nat → Int64) (y4 : Int32) (H : Heap) (locs : List Loc) (ls : Array Slot), cn + 6 * (n + 1) ≤ 5000 → sn + 36 * (n + 1) ≤ 60000 → ¬ ((Int32.ofNat L) - (4 : Int32) < y4) → az_in y4 L = true → F_law_C32 (fun V T S hs Mo f y4 => F_law_L n xs L V T S hs Mo f y4) xs L V T S hs Mo f y4 = some 1 → va_P g.1 az_cl (((az_ou g ob f :: az_wF g ax an au aw V T S hs) ++ az_cM g ad Mo)) H → va_D (fun q : Nat => s.heap.size ≤ q) (((az_ou g ob f :: az_wF g ax an au aw V T S hs) ++ az_cM g ad Mo)) → va_S (fun q : Nat => s.heap.size ≤ q) s.heap H locs → lv_has ls 7 [(0, .ref (b)), (1, .ref (ax 0)), (2, .ref (ad 0)), (3, .ref (ob)), (4, .int y4)] → W p l e room_1 s m #[Value.ref b] below meth c H locs cn sn (lw_Z below #[Value.ref b] s) (F0 m 2027 ls []) := by
  intro cn sn V T S hs Mo f y4 H locs ls hcn hsn c29 i35 h hP hD hS hl
  obtain ⟨hx, hb, hr, hml, hown, -, -, -, hlocks, -⟩ := id C0
  unfold F_law_C32 at h
  obtain ⟨A, eA⟩ : ∃ A : Nat → Prop, A = (fun q : Nat => s.heap.size ≤ q) := ⟨_, rfl⟩
  rw [← eA] at hbA hcx hA hD hS ih
  refine lv_aload_n hx hb dL_law_2027 rfl (lv_at hl 1 rfl) ?_
  refine lv_aload_n hx hb dL_law_2028 rfl (lv_at hl 0 rfl) ?_
  refine lv_iload hx hb dL_law_2029 (lv_at hl 4 rfl) ?_
  refine lv_iconst (v := (1 : Int32)) hx hb dL_law_2031 (by decide) ?_
  refine lv_iadd hx hb dL_law_2032 ?_
  obtain ⟨i2033, h⟩ := az_ite h
  refine va_sld hx hb hX hbl hbA hS (az_vin i2033) dL_law_2033 ?_
  refine lv_aload_n hx hb dL_law_2034 rfl (lv_at hl 0 rfl) ?_
  refine lv_iload hx hb dL_law_2035 (lv_at hl 4 rfl) ?_
  refine lv_iconst (v := (2 : Int32)) hx hb dL_law_2037 (by decide) ?_
  refine lv_iadd hx hb dL_law_2038 ?_
  obtain ⟨i2039, h⟩ := az_ite h
  refine va_sld hx hb hX hbl hbA hS (az_vin i2039) dL_law_2039 ?_
  refine lv_aload_n hx hb dL_law_2040 rfl (lv_at hl 3 rfl) ?_
  obtain ⟨o2041, hc2041, h⟩ := az_bnd h
  refine az_callLW (wr := az_cM g ad Mo) (As := [.ref (ax 0), .int (xs (y4 + (1 : Int32)).toNatClampNeg), .int (xs (y4 + (2 : Int32)).toNatClampNeg), .ref (ob)]) (rest := []) ⟨hx, hb, hml, hown, hts⟩ hl.1 (kL_block l hst g sa ax an au aw ob V T S hs f (xs (y4 + (1 : Int32)).toNatClampNeg) (xs (y4 + (2 : Int32)).toNatClampNeg) o2041 hc2041) (vx_cwSW (hh := [(0, 10, 13, 19), (0, 10, 17, 13)]) 4 hts gL_law_L_block rfl rfl rfl (by decide +kernel) ⟨(Nat.le_of_ble_eq_true rfl), (Nat.le_of_ble_eq_true rfl)⟩) rfl hK hcx hP hD hS hA (Nat.le_of_ble_eq_true rfl) dL_law_2041 ⟨by show _ ≤ 601024; omega, by show _ ≤ 7293034; omega⟩ rfl (fun H locs hP hD hS => ?_)
  have hP : va_P g.1 az_cl (((az_ou g ob o2041.2.1 :: az_wF g ax an au aw o2041.2.2.1 o2041.2.2.2.1 o2041.2.2.2.2.1 o2041.2.2.2.2.2) ++ az_cM g ad Mo)) _ := hP
  have hD : va_D A (((az_ou g ob o2041.2.1 :: az_wF g ax an au aw o2041.2.2.1 o2041.2.2.2.1 o2041.2.2.2.2.1 o2041.2.2.2.2.2) ++ az_cM g ad Mo)) := hD
  refine lv_istore (lv' := [(5, .int o2041.1), (0, .ref (b)), (1, .ref (ax 0)), (2, .ref (ad 0)), (3, .ref (ob)), (4, .int y4)]) hx hb dL_law_2044 hl (by decide) rfl (fun ls hl => ?_)
  refine lv_aload_n hx hb dL_law_2046 rfl (lv_at hl 3 rfl) ?_
  refine lv_aload_n hx hb dL_law_2047 rfl (lv_at hl 1 rfl) ?_
  refine lv_iload hx hb dL_law_2048 (lv_at hl 5 rfl) ?_
  refine lv_iconst (v := (1 : Int32)) hx hb dL_law_2050 (by decide) ?_
  refine lv_iadd hx hb dL_law_2051 ?_
  refine va_sld hx hb hX hbl hbA hS (az_vin i2033) dL_law_2052 ?_
  refine lv_aload_n hx hb dL_law_2053 rfl (lv_at hl 1 rfl) ?_
  refine lv_iload hx hb dL_law_2054 (lv_at hl 5 rfl) ?_
  refine lv_iconst (v := (2 : Int32)) hx hb dL_law_2056 (by decide) ?_
  refine lv_iadd hx hb dL_law_2057 ?_
  refine va_sld hx hb hX hbl hbA hS (az_vin i2039) dL_law_2058 ?_
  obtain ⟨o2059, hc2059, h⟩ := az_bnd h
  refine az_callPi (wr := (az_ou g ob o2041.2.1 :: az_wF g ax an au aw o2041.2.2.1 o2041.2.2.2.1 o2041.2.2.2.2.1 o2041.2.2.2.2.2)) (w2 := ((az_ou g ob o2041.2.1 :: az_wF g ax an au aw o2041.2.2.1 o2041.2.2.2.1 o2041.2.2.2.2.1 o2041.2.2.2.2.2) ++ az_cM g ad (va_up Mo 2 o2059.2))) (As := [.int (xs (y4 + (1 : Int32)).toNatClampNeg), .int (xs (y4 + (2 : Int32)).toNatClampNeg)]) (rest := []) ⟨hx, hb, hml, hown, hts⟩ hl.1 (kX7_block l g ad Mo (xs (y4 + (1 : Int32)).toNatClampNeg) (xs (y4 + (2 : Int32)).toNatClampNeg) o2059 hc2059) (cwV 2 hts gL_law_X7_block rfl rfl rfl (by decide +kernel) ⟨(Nat.le_of_ble_eq_true rfl), (Nat.le_of_ble_eq_true rfl)⟩) rfl hK hP hD hS hA List.perm_append_comm List.perm_append_comm 0 rfl rfl rfl (Nat.le_of_ble_eq_true rfl) dL_law_2059 ⟨by show _ ≤ 601024; omega, by show _ ≤ 7293034; omega⟩ rfl (fun H locs hP hD hS => ?_)
  have hP : va_P g.1 az_cl (((az_ou g ob o2041.2.1 :: az_wF g ax an au aw o2041.2.2.1 o2041.2.2.2.1 o2041.2.2.2.2.1 o2041.2.2.2.2.2) ++ az_cM g ad (va_up Mo 2 o2059.2))) _ := hP
  have hD : va_D A (((az_ou g ob o2041.2.1 :: az_wF g ax an au aw o2041.2.2.1 o2041.2.2.2.1 o2041.2.2.2.2.1 o2041.2.2.2.2.2) ++ az_cM g ad (va_up Mo 2 o2059.2))) := hD
  refine lv_istore (lv' := [(6, .int o2059.1), (5, .int o2041.1), (0, .ref (b)), (1, .ref (ax 0)), (2, .ref (ad 0)), (3, .ref (ob)), (4, .int y4)]) hx hb dL_law_2062 hl (by decide) rfl (fun ls hl => ?_)
  refine lv_aload_n hx hb dL_law_2064 rfl (lv_at hl 4 rfl) ?_
  obtain ⟨o2065, hc2065, h⟩ := az_bnd h
  refine az_callPi (wr := (az_ou g ob o2041.2.1 :: az_wF g ax an au aw o2041.2.2.1 o2041.2.2.2.1 o2041.2.2.2.2.1 o2041.2.2.2.2.2)) (w2 := ((az_ou g ob o2041.2.1 :: az_wF g ax an au aw o2041.2.2.1 o2041.2.2.2.1 o2041.2.2.2.2.1 o2041.2.2.2.2.2) ++ az_cM g ad (va_up Mo 2 o2059.2))) (As := []) (rest := []) ⟨hx, hb, hml, hown, hts⟩ hl.1 (kX7_thrown l g ad (va_up Mo 2 o2059.2)  o2065 hc2065) (cwV 0 hts gL_law_X7_thrown rfl rfl rfl (by decide +kernel) ⟨(Nat.le_of_ble_eq_true rfl), (Nat.le_of_ble_eq_true rfl)⟩) rfl hK hP hD hS hA List.perm_append_comm List.perm_append_comm 0 rfl rfl rfl (Nat.le_of_ble_eq_true rfl) dL_law_2065 ⟨by show _ ≤ 601024; omega, by show _ ≤ 7293034; omega⟩ rfl (fun H locs hP hD hS => ?_)
  have hP : va_P g.1 az_cl (((az_ou g ob o2041.2.1 :: az_wF g ax an au aw o2041.2.2.1 o2041.2.2.2.1 o2041.2.2.2.2.1 o2041.2.2.2.2.2) ++ az_cM g ad (va_up Mo 2 o2059.2))) _ := hP
  have hD : va_D A (((az_ou g ob o2041.2.1 :: az_wF g ax an au aw o2041.2.2.1 o2041.2.2.2.1 o2041.2.2.2.2.1 o2041.2.2.2.2.2) ++ az_cM g ad (va_up Mo 2 o2059.2))) := hD
  refine lv_iload hx hb dL_law_2068 (lv_at hl 1 rfl) ?_
  refine lv_icmp_eq (tgt := 2075) hx hb dL_law_2070 (by decide) (fun c2070 => ?_) (fun c2070 => ?_)
  · replace h := az_pos c2070 h
    refine lv_iload hx hb dL_law_2075 (lv_at hl 1 rfl) ?_
    refine lv_if_ne (tgt := 2092) hx hb dL_law_2077 (by decide) (fun c2077 => ?_) (fun c2077 => ?_)
    · replace h := az_neg c2077 h
      refine lv_goto (tgt := 2624) hx hb dL_law_2092 (by decide) ?_
      refine lv_iinc (v := y4 + (4 : Int32)) (lv' := [(4, .int (y4 + (4 : Int32))), (6, .int o2059.1), (5, .int o2041.1), (0, .ref (b)), (1, .ref (ax 0)), (2, .ref (ad 0)), (3, .ref (ob))]) hx hb dL_law_2624 hl (k := 6) rfl rfl (by decide) rfl (fun ls hl => ?_)
      refine lv_goto (tgt := 23) hx hb dL_law_2627 (by decide) ?_
      have hP : va_P g.1 az_cl (((az_ou g ob o2041.2.1 :: az_wF g ax an au aw o2041.2.2.1 o2041.2.2.2.1 o2041.2.2.2.2.1 o2041.2.2.2.2.2) ++ az_cM g ad (va_up Mo 2 o2059.2))) _ := hP
      have hD : va_D A (((az_ou g ob o2041.2.1 :: az_wF g ax an au aw o2041.2.2.1 o2041.2.2.2.1 o2041.2.2.2.2.1 o2041.2.2.2.2.2) ++ az_cM g ad (va_up Mo 2 o2059.2))) := hD
      exact ih _ _ _ _ _ _ _ _ _ _ _ _ (by omega) (by omega) h hP hD hS (lv_sub hl [3, 4, 5, 6, 0] rfl)
    · replace h := az_pos c2077 h
      refine lv_aload_n hx hb dL_law_2080 rfl (lv_at hl 5 rfl) ?_
      refine lv_iconst (v := (0 : Int32)) hx hb dL_law_2081 (by decide) ?_
      refine va_lald (D := g.1) (f := o2041.2.1) hx hb hK hP 0 2 rfl rfl (az_vin (by decide +kernel)) dL_law_2082 ?_
      refine lv_iload hx hb dL_law_2083 (lv_at hl 0 rfl) ?_
      refine lv_i2l (v := o2059.1.toInt64) hx hb dL_law_2085 rfl ?_
      refine W.lcmp hx hb dL_law_2086 ?_
      refine lv_if_eq (tgt := 2092) hx hb dL_law_2087 (by decide) (fun c2087 => ?_) (fun c2087 => ?_)
      · replace h := az_pos c2087 h
        refine lv_goto (tgt := 2624) hx hb dL_law_2092 (by decide) ?_
        refine lv_iinc (v := y4 + (4 : Int32)) (lv' := [(4, .int (y4 + (4 : Int32))), (6, .int o2059.1), (5, .int o2041.1), (0, .ref (b)), (1, .ref (ax 0)), (2, .ref (ad 0)), (3, .ref (ob))]) hx hb dL_law_2624 hl (k := 6) rfl rfl (by decide) rfl (fun ls hl => ?_)
        refine lv_goto (tgt := 23) hx hb dL_law_2627 (by decide) ?_
        have hP : va_P g.1 az_cl (((az_ou g ob o2041.2.1 :: az_wF g ax an au aw o2041.2.2.1 o2041.2.2.2.1 o2041.2.2.2.2.1 o2041.2.2.2.2.2) ++ az_cM g ad (va_up Mo 2 o2059.2))) _ := hP
        have hD : va_D A (((az_ou g ob o2041.2.1 :: az_wF g ax an au aw o2041.2.2.1 o2041.2.2.2.1 o2041.2.2.2.2.1 o2041.2.2.2.2.2) ++ az_cM g ad (va_up Mo 2 o2059.2))) := hD
        exact ih _ _ _ _ _ _ _ _ _ _ _ _ (by omega) (by omega) h hP hD hS (lv_sub hl [3, 4, 5, 6, 0] rfl)
      · replace h := az_neg c2087 h
        refine lv_iconst (v := (0 : Int32)) hx hb dL_law_2090 (by decide) ?_
        exact absurd (Option.some.inj h) (by decide)
  · replace h := az_neg c2070 h
    refine lv_iconst (v := (0 : Int32)) hx hb dL_law_2073 (by decide) ?_
    exact absurd (Option.some.inj h) (by decide)
set_option maxHeartbeats 8000000 in
set_option maxRecDepth 100000 in
theorem LWC33 {p : Program} {e : Env} {s : State} {m : MethodId} {below : List Frame} {meth : Method} {c : Code} (l : Launch) (hst : l.stackTraces = false) {b L : Nat} {xs : Nat → Int32} (hL : L ≤ 2048) (C0 : lw_At p s m meth c b L xs) (g : az_G) (sa : Nat → Nat) (ax an au : Nat → Nat) (aw : Nat → Nat → Nat) (ob : Nat) (ad : Nat → Nat) (hX : va_X b L xs s s.heap) (hbl : b < s.heap.size) (hbA : ¬ (fun q : Nat => s.heap.size ≤ q) b) (hcx : az_cx sa (fun q : Nat => s.heap.size ≤ q) s s.heap) (hA : ∀ q : Nat, s.heap.size ≤ q → (fun q : Nat => s.heap.size ≤ q) q) (hK : va_K g.1 az_cl (az_tys g) s) (hts : ∀ w ∈ wsL_law, w.before #[Value.ref b] s = true) (n : Nat) (ih : ∀ (cn sn : Nat) (V T : az_St) (S : Nat → az_St) (hs : Nat → Int32) (Mo : az_St) (f : Nat → Int64) (y4 : Int32) (H : Heap) (locs : List Loc) (ls : Array Slot), cn + 6 * n ≤ 5000 → sn + 36 * n ≤ 60000 → F_law_L n xs L V T S hs Mo f y4 = some 1 → va_P g.1 az_cl (((az_ou g ob f :: az_wF g ax an au aw V T S hs) ++ az_cM g ad Mo)) H → va_D (fun q : Nat => s.heap.size ≤ q) (((az_ou g ob f :: az_wF g ax an au aw V T S hs) ++ az_cM g ad Mo)) → va_S (fun q : Nat => s.heap.size ≤ q) s.heap H locs → lv_has ls 7 [(0, .ref (b)), (1, .ref (ax 0)), (2, .ref (ad 0)), (3, .ref (ob)), (4, .int y4)] → W p l e room_1 s m #[Value.ref b] below meth c H locs cn sn (lw_Z below #[Value.ref b] s) (F0 m 23 ls [])) : ∀ (cn sn : Nat) (V T : az_St) (S : Nat → az_St) (hs : Nat → Int32) (Mo : az_St) (f : Nat → Int64) (y4 : Int32) (H : Heap) (locs : List Loc) (ls : Array Slot), cn + 6 * (n + 1) ≤ 5000 → sn + 36 * (n + 1) ≤ 60000 → ¬ ((Int32.ofNat L) - (4 : Int32) < y4) → az_in y4 L = true → F_law_C33 (fun V T S hs Mo f y4 => F_law_L n xs L V T S hs Mo f y4) xs L V T S hs Mo f y4 = some 1 → va_P g.1 az_cl (((az_ou g ob f :: az_wF g ax an au aw V T S hs) ++ az_cM g ad Mo)) H → va_D (fun q : Nat => s.heap.size ≤ q) (((az_ou g ob f :: az_wF g ax an au aw V T S hs) ++ az_cM g ad Mo)) → va_S (fun q : Nat => s.heap.size ≤ q) s.heap H locs → lv_has ls 7 [(0, .ref (b)), (1, .ref (ax 0)), (2, .ref (ad 0)), (3, .ref (ob)), (4, .int y4)] → W p l e room_1 s m #[Value.ref b] below meth c H locs cn sn (lw_Z below #[Value.ref b] s) (F0 m 2095 ls []) := by
  intro cn sn V T S hs Mo f y4 H locs ls hcn hsn c29 i35 h hP hD hS hl
  obtain ⟨hx, hb, hr, hml, hown, -, -, -, hlocks, -⟩ := id C0
  unfold F_law_C33 at h
  obtain ⟨A, eA⟩ : ∃ A : Nat → Prop, A = (fun q : Nat => s.heap.size ≤ q) := ⟨_, rfl⟩
  rw [← eA] at hbA hcx hA hD hS ih
  refine lv_aload_n hx hb dL_law_2095 rfl (lv_at hl 1 rfl) ?_
  refine lv_aload_n hx hb dL_law_2096 rfl (lv_at hl 0 rfl) ?_
  refine lv_iload hx hb dL_law_2097 (lv_at hl 4 rfl) ?_
  refine lv_iconst (v := (1 : Int32)) hx hb dL_law_2099 (by decide) ?_
  refine lv_iadd hx hb dL_law_2100 ?_
  obtain ⟨i2101, h⟩ := az_ite h
  refine va_sld hx hb hX hbl hbA hS (az_vin i2101) dL_law_2101 ?_
  refine lv_aload_n hx hb dL_law_2102 rfl (lv_at hl 3 rfl) ?_
  obtain ⟨o2103, hc2103, h⟩ := az_bnd h
  refine az_callLW (wr := az_cM g ad Mo) (As := [.ref (ax 0), .int (xs (y4 + (1 : Int32)).toNatClampNeg), .ref (ob)]) (rest := []) ⟨hx, hb, hml, hown, hts⟩ hl.1 (kL_neededBy l hst g sa ax an au aw ob V T S hs f (xs (y4 + (1 : Int32)).toNatClampNeg) o2103 hc2103) (vx_cwSW (hh := [(0, 9, 12, 19)]) 3 hts gL_law_L_neededBy rfl rfl rfl (by decide +kernel) ⟨(Nat.le_of_ble_eq_true rfl), (Nat.le_of_ble_eq_true rfl)⟩) rfl hK hcx hP hD hS hA (Nat.le_of_ble_eq_true rfl) dL_law_2103 ⟨by show _ ≤ 601024; omega, by show _ ≤ 7293034; omega⟩ rfl (fun H locs hP hD hS => ?_)
  have hP : va_P g.1 az_cl (((az_ou g ob o2103.2.1 :: az_wF g ax an au aw o2103.2.2.1 o2103.2.2.2.1 o2103.2.2.2.2.1 o2103.2.2.2.2.2) ++ az_cM g ad Mo)) _ := hP
  have hD : va_D A (((az_ou g ob o2103.2.1 :: az_wF g ax an au aw o2103.2.2.1 o2103.2.2.2.1 o2103.2.2.2.2.1 o2103.2.2.2.2.2) ++ az_cM g ad Mo)) := hD
  refine lv_istore (lv' := [(5, .int o2103.1), (0, .ref (b)), (1, .ref (ax 0)), (2, .ref (ad 0)), (3, .ref (ob)), (4, .int y4)]) hx hb dL_law_2106 hl (by decide) rfl (fun ls hl => ?_)
  refine lv_aload_n hx hb dL_law_2108 rfl (lv_at hl 3 rfl) ?_
  refine lv_aload_n hx hb dL_law_2109 rfl (lv_at hl 1 rfl) ?_
  refine lv_iload hx hb dL_law_2110 (lv_at hl 5 rfl) ?_
  refine lv_iconst (v := (1 : Int32)) hx hb dL_law_2112 (by decide) ?_
  refine lv_iadd hx hb dL_law_2113 ?_
  refine va_sld hx hb hX hbl hbA hS (az_vin i2101) dL_law_2114 ?_
  obtain ⟨o2115, hc2115, h⟩ := az_bnd h
  refine az_callPi (wr := (az_ou g ob o2103.2.1 :: az_wF g ax an au aw o2103.2.2.1 o2103.2.2.2.1 o2103.2.2.2.2.1 o2103.2.2.2.2.2)) (w2 := ((az_ou g ob o2103.2.1 :: az_wF g ax an au aw o2103.2.2.1 o2103.2.2.2.1 o2103.2.2.2.2.1 o2103.2.2.2.2.2) ++ az_cM g ad (va_up Mo 2 o2115.2))) (As := [.int (xs (y4 + (1 : Int32)).toNatClampNeg)]) (rest := []) ⟨hx, hb, hml, hown, hts⟩ hl.1 (kX7_neededBy l g ad Mo (xs (y4 + (1 : Int32)).toNatClampNeg) o2115 hc2115) (cwV 1 hts gL_law_X7_neededBy rfl rfl rfl (by decide +kernel) ⟨(Nat.le_of_ble_eq_true rfl), (Nat.le_of_ble_eq_true rfl)⟩) rfl hK hP hD hS hA List.perm_append_comm List.perm_append_comm 0 rfl rfl rfl (Nat.le_of_ble_eq_true rfl) dL_law_2115 ⟨by show _ ≤ 601024; omega, by show _ ≤ 7293034; omega⟩ rfl (fun H locs hP hD hS => ?_)
  have hP : va_P g.1 az_cl (((az_ou g ob o2103.2.1 :: az_wF g ax an au aw o2103.2.2.1 o2103.2.2.2.1 o2103.2.2.2.2.1 o2103.2.2.2.2.2) ++ az_cM g ad (va_up Mo 2 o2115.2))) _ := hP
  have hD : va_D A (((az_ou g ob o2103.2.1 :: az_wF g ax an au aw o2103.2.2.1 o2103.2.2.2.1 o2103.2.2.2.2.1 o2103.2.2.2.2.2) ++ az_cM g ad (va_up Mo 2 o2115.2))) := hD
  refine lv_istore (lv' := [(6, .int o2115.1), (5, .int o2103.1), (0, .ref (b)), (1, .ref (ax 0)), (2, .ref (ad 0)), (3, .ref (ob)), (4, .int y4)]) hx hb dL_law_2118 hl (by decide) rfl (fun ls hl => ?_)
  refine lv_aload_n hx hb dL_law_2120 rfl (lv_at hl 4 rfl) ?_
  obtain ⟨o2121, hc2121, h⟩ := az_bnd h
  refine az_callPi (wr := (az_ou g ob o2103.2.1 :: az_wF g ax an au aw o2103.2.2.1 o2103.2.2.2.1 o2103.2.2.2.2.1 o2103.2.2.2.2.2)) (w2 := ((az_ou g ob o2103.2.1 :: az_wF g ax an au aw o2103.2.2.1 o2103.2.2.2.1 o2103.2.2.2.2.1 o2103.2.2.2.2.2) ++ az_cM g ad (va_up Mo 2 o2115.2))) (As := []) (rest := []) ⟨hx, hb, hml, hown, hts⟩ hl.1 (kX7_thrown l g ad (va_up Mo 2 o2115.2)  o2121 hc2121) (cwV 0 hts gL_law_X7_thrown rfl rfl rfl (by decide +kernel) ⟨(Nat.le_of_ble_eq_true rfl), (Nat.le_of_ble_eq_true rfl)⟩) rfl hK hP hD hS hA List.perm_append_comm List.perm_append_comm 0 rfl rfl rfl (Nat.le_of_ble_eq_true rfl) dL_law_2121 ⟨by show _ ≤ 601024; omega, by show _ ≤ 7293034; omega⟩ rfl (fun H locs hP hD hS => ?_)
  have hP : va_P g.1 az_cl (((az_ou g ob o2103.2.1 :: az_wF g ax an au aw o2103.2.2.1 o2103.2.2.2.1 o2103.2.2.2.2.1 o2103.2.2.2.2.2) ++ az_cM g ad (va_up Mo 2 o2115.2))) _ := hP
  have hD : va_D A (((az_ou g ob o2103.2.1 :: az_wF g ax an au aw o2103.2.2.1 o2103.2.2.2.1 o2103.2.2.2.2.1 o2103.2.2.2.2.2) ++ az_cM g ad (va_up Mo 2 o2115.2))) := hD
  refine lv_iload hx hb dL_law_2124 (lv_at hl 1 rfl) ?_
  refine lv_icmp_eq (tgt := 2131) hx hb dL_law_2126 (by decide) (fun c2126 => ?_) (fun c2126 => ?_)
  · replace h := az_pos c2126 h
    refine lv_iload hx hb dL_law_2131 (lv_at hl 1 rfl) ?_
    refine lv_if_ne (tgt := 2148) hx hb dL_law_2133 (by decide) (fun c2133 => ?_) (fun c2133 => ?_)
    · replace h := az_neg c2133 h
      refine lv_goto (tgt := 2624) hx hb dL_law_2148 (by decide) ?_
      refine lv_iinc (v := y4 + (4 : Int32)) (lv' := [(4, .int (y4 + (4 : Int32))), (6, .int o2115.1), (5, .int o2103.1), (0, .ref (b)), (1, .ref (ax 0)), (2, .ref (ad 0)), (3, .ref (ob))]) hx hb dL_law_2624 hl (k := 6) rfl rfl (by decide) rfl (fun ls hl => ?_)
      refine lv_goto (tgt := 23) hx hb dL_law_2627 (by decide) ?_
      have hP : va_P g.1 az_cl (((az_ou g ob o2103.2.1 :: az_wF g ax an au aw o2103.2.2.1 o2103.2.2.2.1 o2103.2.2.2.2.1 o2103.2.2.2.2.2) ++ az_cM g ad (va_up Mo 2 o2115.2))) _ := hP
      have hD : va_D A (((az_ou g ob o2103.2.1 :: az_wF g ax an au aw o2103.2.2.1 o2103.2.2.2.1 o2103.2.2.2.2.1 o2103.2.2.2.2.2) ++ az_cM g ad (va_up Mo 2 o2115.2))) := hD
      exact ih _ _ _ _ _ _ _ _ _ _ _ _ (by omega) (by omega) h hP hD hS (lv_sub hl [3, 4, 5, 6, 0] rfl)
    · replace h := az_pos c2133 h
      refine lv_aload_n hx hb dL_law_2136 rfl (lv_at hl 5 rfl) ?_
      refine lv_iconst (v := (0 : Int32)) hx hb dL_law_2137 (by decide) ?_
      refine va_lald (D := g.1) (f := o2103.2.1) hx hb hK hP 0 2 rfl rfl (az_vin (by decide +kernel)) dL_law_2138 ?_
      refine lv_iload hx hb dL_law_2139 (lv_at hl 0 rfl) ?_
      refine lv_i2l (v := o2115.1.toInt64) hx hb dL_law_2141 rfl ?_
      refine W.lcmp hx hb dL_law_2142 ?_
      refine lv_if_eq (tgt := 2148) hx hb dL_law_2143 (by decide) (fun c2143 => ?_) (fun c2143 => ?_)
      · replace h := az_pos c2143 h
        refine lv_goto (tgt := 2624) hx hb dL_law_2148 (by decide) ?_
        refine lv_iinc (v := y4 + (4 : Int32)) (lv' := [(4, .int (y4 + (4 : Int32))), (6, .int o2115.1), (5, .int o2103.1), (0, .ref (b)), (1, .ref (ax 0)), (2, .ref (ad 0)), (3, .ref (ob))]) hx hb dL_law_2624 hl (k := 6) rfl rfl (by decide) rfl (fun ls hl => ?_)
        refine lv_goto (tgt := 23) hx hb dL_law_2627 (by decide) ?_
        have hP : va_P g.1 az_cl (((az_ou g ob o2103.2.1 :: az_wF g ax an au aw o2103.2.2.1 o2103.2.2.2.1 o2103.2.2.2.2.1 o2103.2.2.2.2.2) ++ az_cM g ad (va_up Mo 2 o2115.2))) _ := hP
        have hD : va_D A (((az_ou g ob o2103.2.1 :: az_wF g ax an au aw o2103.2.2.1 o2103.2.2.2.1 o2103.2.2.2.2.1 o2103.2.2.2.2.2) ++ az_cM g ad (va_up Mo 2 o2115.2))) := hD
        exact ih _ _ _ _ _ _ _ _ _ _ _ _ (by omega) (by omega) h hP hD hS (lv_sub hl [3, 4, 5, 6, 0] rfl)
      · replace h := az_neg c2143 h
        refine lv_iconst (v := (0 : Int32)) hx hb dL_law_2146 (by decide) ?_
        exact absurd (Option.some.inj h) (by decide)
  · replace h := az_neg c2126 h
    refine lv_iconst (v := (0 : Int32)) hx hb dL_law_2129 (by decide) ?_
    exact absurd (Option.some.inj h) (by decide)
set_option maxHeartbeats 8000000 in
set_option maxRecDepth 100000 in
theorem LWC34 {p : Program} {e : Env} {s : State} {m : MethodId} {below : List Frame} {meth : Method} {c : Code} (l : Launch) (hst : l.stackTraces = false) {b L : Nat} {xs : Nat → Int32} (hL : L ≤ 2048) (C0 : lw_At p s m meth c b L xs) (g : az_G) (sa : Nat → Nat) (ax an au : Nat → Nat) (aw : Nat → Nat → Nat) (ob : Nat) (ad : Nat → Nat) (hX : va_X b L xs s s.heap) (hbl : b < s.heap.size) (hbA : ¬ (fun q : Nat => s.heap.size ≤ q) b) (hcx : az_cx sa (fun q : Nat => s.heap.size ≤ q) s s.heap) (hA : ∀ q : Nat, s.heap.size ≤ q → (fun q : Nat => s.heap.size ≤ q) q) (hK : va_K g.1 az_cl (az_tys g) s) (hts : ∀ w ∈ wsL_law, w.before #[Value.ref b] s = true) (n : Nat) (ih : ∀ (cn sn : Nat) (V T : az_St) (S : Nat → az_St) (hs : Nat → Int32) (Mo : az_St) (f : Nat → Int64) (y4 : Int32) (H : Heap) (locs : List Loc) (ls : Array Slot), cn + 6 * n ≤ 5000 → sn + 36 * n ≤ 60000 → F_law_L n xs L V T S hs Mo f y4 = some 1 → va_P g.1 az_cl (((az_ou g ob f :: az_wF g ax an au aw V T S hs) ++ az_cM g ad Mo)) H → va_D (fun q : Nat => s.heap.size ≤ q) (((az_ou g ob f :: az_wF g ax an au aw V T S hs) ++ az_cM g ad Mo)) → va_S (fun q : Nat => s.heap.size ≤ q) s.heap H locs → lv_has ls 7 [(0, .ref (b)), (1, .ref (ax 0)), (2, .ref (ad 0)), (3, .ref (ob)), (4, .int y4)] → W p l e room_1 s m #[Value.ref b] below meth c H locs cn sn (lw_Z below #[Value.ref b] s) (F0 m 23 ls [])) : ∀ (cn sn : Nat) (V T : az_St) (S : Nat → az_St) (hs : Nat → Int32) (Mo : az_St) (f : Nat → Int64) (y4 : Int32) (H : Heap) (locs : List Loc) (ls : Array Slot), cn + 6 * (n + 1) ≤ 5000 → sn + 36 * (n + 1) ≤ 60000 → ¬ ((Int32.ofNat L) - (4 : Int32) < y4) → az_in y4 L = true → F_law_C34 (fun V T S hs Mo f y4 => F_law_L n xs L V T S hs Mo f y4) xs L V T S hs Mo f y4 = some 1 → va_P g.1 az_cl (((az_ou g ob f :: az_wF g ax an au aw V T S hs) ++ az_cM g ad Mo)) H → va_D (fun q : Nat => s.heap.size ≤ q) (((az_ou g ob f :: az_wF g ax an au aw V T S hs) ++ az_cM g ad Mo)) → va_S (fun q : Nat => s.heap.size ≤ q) s.heap H locs → lv_has ls 7 [(0, .ref (b)), (1, .ref (ax 0)), (2, .ref (ad 0)), (3, .ref (ob)), (4, .int y4)] → W p l e room_1 s m #[Value.ref b] below meth c H locs cn sn (lw_Z below #[Value.ref b] s) (F0 m 2151 ls []) := by
  intro cn sn V T S hs Mo f y4 H locs ls hcn hsn c29 i35 h hP hD hS hl
  obtain ⟨hx, hb, hr, hml, hown, -, -, -, hlocks, -⟩ := id C0
  unfold F_law_C34 at h
  obtain ⟨A, eA⟩ : ∃ A : Nat → Prop, A = (fun q : Nat => s.heap.size ≤ q) := ⟨_, rfl⟩
  rw [← eA] at hbA hcx hA hD hS ih
  refine lv_aload_n hx hb dL_law_2151 rfl (lv_at hl 1 rfl) ?_
  refine lv_aload_n hx hb dL_law_2152 rfl (lv_at hl 0 rfl) ?_
  refine lv_iload hx hb dL_law_2153 (lv_at hl 4 rfl) ?_
  refine lv_iconst (v := (1 : Int32)) hx hb dL_law_2155 (by decide) ?_
  refine lv_iadd hx hb dL_law_2156 ?_
  obtain ⟨i2157, h⟩ := az_ite h
  refine va_sld hx hb hX hbl hbA hS (az_vin i2157) dL_law_2157 ?_
  refine lv_aload_n hx hb dL_law_2158 rfl (lv_at hl 3 rfl) ?_
  obtain ⟨o2159, hc2159, h⟩ := az_bnd h
  refine az_callLW (wr := az_cM g ad Mo) (As := [.ref (ax 0), .int (xs (y4 + (1 : Int32)).toNatClampNeg), .ref (ob)]) (rest := []) ⟨hx, hb, hml, hown, hts⟩ hl.1 (kL_waiting l hst g sa ax an au aw ob V T S hs f (xs (y4 + (1 : Int32)).toNatClampNeg) o2159 hc2159) (vx_cwSW (hh := [(0, 9, 12, 13)]) 3 hts gL_law_L_waiting rfl rfl rfl (by decide +kernel) ⟨(Nat.le_of_ble_eq_true rfl), (Nat.le_of_ble_eq_true rfl)⟩) rfl hK hcx hP hD hS hA (Nat.le_of_ble_eq_true rfl) dL_law_2159 ⟨by show _ ≤ 601024; omega, by show _ ≤ 7293034; omega⟩ rfl (fun H locs hP hD hS => ?_)
  have hP : va_P g.1 az_cl (((az_ou g ob o2159.2.1 :: az_wF g ax an au aw o2159.2.2.1 o2159.2.2.2.1 o2159.2.2.2.2.1 o2159.2.2.2.2.2) ++ az_cM g ad Mo)) _ := hP
  have hD : va_D A (((az_ou g ob o2159.2.1 :: az_wF g ax an au aw o2159.2.2.1 o2159.2.2.2.1 o2159.2.2.2.2.1 o2159.2.2.2.2.2) ++ az_cM g ad Mo)) := hD
  refine lv_istore (lv' := [(5, .int o2159.1), (0, .ref (b)), (1, .ref (ax 0)), (2, .ref (ad 0)), (3, .ref (ob)), (4, .int y4)]) hx hb dL_law_2162 hl (by decide) rfl (fun ls hl => ?_)
  refine lv_aload_n hx hb dL_law_2164 rfl (lv_at hl 3 rfl) ?_
  refine lv_aload_n hx hb dL_law_2165 rfl (lv_at hl 1 rfl) ?_
  refine lv_iload hx hb dL_law_2166 (lv_at hl 5 rfl) ?_
  refine lv_iconst (v := (1 : Int32)) hx hb dL_law_2168 (by decide) ?_
  refine lv_iadd hx hb dL_law_2169 ?_
  refine va_sld hx hb hX hbl hbA hS (az_vin i2157) dL_law_2170 ?_
  obtain ⟨o2171, hc2171, h⟩ := az_bnd h
  refine az_callPi (wr := (az_ou g ob o2159.2.1 :: az_wF g ax an au aw o2159.2.2.1 o2159.2.2.2.1 o2159.2.2.2.2.1 o2159.2.2.2.2.2)) (w2 := ((az_ou g ob o2159.2.1 :: az_wF g ax an au aw o2159.2.2.1 o2159.2.2.2.1 o2159.2.2.2.2.1 o2159.2.2.2.2.2) ++ az_cM g ad (va_up Mo 2 o2171.2))) (As := [.int (xs (y4 + (1 : Int32)).toNatClampNeg)]) (rest := []) ⟨hx, hb, hml, hown, hts⟩ hl.1 (kX7_waiting l g ad Mo (xs (y4 + (1 : Int32)).toNatClampNeg) o2171 hc2171) (cwV 1 hts gL_law_X7_waiting rfl rfl rfl (by decide +kernel) ⟨(Nat.le_of_ble_eq_true rfl), (Nat.le_of_ble_eq_true rfl)⟩) rfl hK hP hD hS hA List.perm_append_comm List.perm_append_comm 0 rfl rfl rfl (Nat.le_of_ble_eq_true rfl) dL_law_2171 ⟨by show _ ≤ 601024; omega, by show _ ≤ 7293034; omega⟩ rfl (fun H locs hP hD hS => ?_)
  have hP : va_P g.1 az_cl (((az_ou g ob o2159.2.1 :: az_wF g ax an au aw o2159.2.2.1 o2159.2.2.2.1 o2159.2.2.2.2.1 o2159.2.2.2.2.2) ++ az_cM g ad (va_up Mo 2 o2171.2))) _ := hP
  have hD : va_D A (((az_ou g ob o2159.2.1 :: az_wF g ax an au aw o2159.2.2.1 o2159.2.2.2.1 o2159.2.2.2.2.1 o2159.2.2.2.2.2) ++ az_cM g ad (va_up Mo 2 o2171.2))) := hD
  refine lv_istore (lv' := [(6, .int o2171.1), (5, .int o2159.1), (0, .ref (b)), (1, .ref (ax 0)), (2, .ref (ad 0)), (3, .ref (ob)), (4, .int y4)]) hx hb dL_law_2174 hl (by decide) rfl (fun ls hl => ?_)
  refine lv_aload_n hx hb dL_law_2176 rfl (lv_at hl 4 rfl) ?_
  obtain ⟨o2177, hc2177, h⟩ := az_bnd h
  refine az_callPi (wr := (az_ou g ob o2159.2.1 :: az_wF g ax an au aw o2159.2.2.1 o2159.2.2.2.1 o2159.2.2.2.2.1 o2159.2.2.2.2.2)) (w2 := ((az_ou g ob o2159.2.1 :: az_wF g ax an au aw o2159.2.2.1 o2159.2.2.2.1 o2159.2.2.2.2.1 o2159.2.2.2.2.2) ++ az_cM g ad (va_up Mo 2 o2171.2))) (As := []) (rest := []) ⟨hx, hb, hml, hown, hts⟩ hl.1 (kX7_thrown l g ad (va_up Mo 2 o2171.2)  o2177 hc2177) (cwV 0 hts gL_law_X7_thrown rfl rfl rfl (by decide +kernel) ⟨(Nat.le_of_ble_eq_true rfl), (Nat.le_of_ble_eq_true rfl)⟩) rfl hK hP hD hS hA List.perm_append_comm List.perm_append_comm 0 rfl rfl rfl (Nat.le_of_ble_eq_true rfl) dL_law_2177 ⟨by show _ ≤ 601024; omega, by show _ ≤ 7293034; omega⟩ rfl (fun H locs hP hD hS => ?_)
  have hP : va_P g.1 az_cl (((az_ou g ob o2159.2.1 :: az_wF g ax an au aw o2159.2.2.1 o2159.2.2.2.1 o2159.2.2.2.2.1 o2159.2.2.2.2.2) ++ az_cM g ad (va_up Mo 2 o2171.2))) _ := hP
  have hD : va_D A (((az_ou g ob o2159.2.1 :: az_wF g ax an au aw o2159.2.2.1 o2159.2.2.2.1 o2159.2.2.2.2.1 o2159.2.2.2.2.2) ++ az_cM g ad (va_up Mo 2 o2171.2))) := hD
  refine lv_iload hx hb dL_law_2180 (lv_at hl 1 rfl) ?_
  refine lv_icmp_eq (tgt := 2187) hx hb dL_law_2182 (by decide) (fun c2182 => ?_) (fun c2182 => ?_)
  · replace h := az_pos c2182 h
    refine lv_iload hx hb dL_law_2187 (lv_at hl 1 rfl) ?_
    refine lv_if_ne (tgt := 2204) hx hb dL_law_2189 (by decide) (fun c2189 => ?_) (fun c2189 => ?_)
    · replace h := az_neg c2189 h
      refine lv_goto (tgt := 2624) hx hb dL_law_2204 (by decide) ?_
      refine lv_iinc (v := y4 + (4 : Int32)) (lv' := [(4, .int (y4 + (4 : Int32))), (6, .int o2171.1), (5, .int o2159.1), (0, .ref (b)), (1, .ref (ax 0)), (2, .ref (ad 0)), (3, .ref (ob))]) hx hb dL_law_2624 hl (k := 6) rfl rfl (by decide) rfl (fun ls hl => ?_)
      refine lv_goto (tgt := 23) hx hb dL_law_2627 (by decide) ?_
      have hP : va_P g.1 az_cl (((az_ou g ob o2159.2.1 :: az_wF g ax an au aw o2159.2.2.1 o2159.2.2.2.1 o2159.2.2.2.2.1 o2159.2.2.2.2.2) ++ az_cM g ad (va_up Mo 2 o2171.2))) _ := hP
      have hD : va_D A (((az_ou g ob o2159.2.1 :: az_wF g ax an au aw o2159.2.2.1 o2159.2.2.2.1 o2159.2.2.2.2.1 o2159.2.2.2.2.2) ++ az_cM g ad (va_up Mo 2 o2171.2))) := hD
      exact ih _ _ _ _ _ _ _ _ _ _ _ _ (by omega) (by omega) h hP hD hS (lv_sub hl [3, 4, 5, 6, 0] rfl)
    · replace h := az_pos c2189 h
      refine lv_aload_n hx hb dL_law_2192 rfl (lv_at hl 5 rfl) ?_
      refine lv_iconst (v := (0 : Int32)) hx hb dL_law_2193 (by decide) ?_
      refine va_lald (D := g.1) (f := o2159.2.1) hx hb hK hP 0 2 rfl rfl (az_vin (by decide +kernel)) dL_law_2194 ?_
      refine lv_iload hx hb dL_law_2195 (lv_at hl 0 rfl) ?_
      refine lv_i2l (v := o2171.1.toInt64) hx hb dL_law_2197 rfl ?_
      refine W.lcmp hx hb dL_law_2198 ?_
      refine lv_if_eq (tgt := 2204) hx hb dL_law_2199 (by decide) (fun c2199 => ?_) (fun c2199 => ?_)
      · replace h := az_pos c2199 h
        refine lv_goto (tgt := 2624) hx hb dL_law_2204 (by decide) ?_
        refine lv_iinc (v := y4 + (4 : Int32)) (lv' := [(4, .int (y4 + (4 : Int32))), (6, .int o2171.1), (5, .int o2159.1), (0, .ref (b)), (1, .ref (ax 0)), (2, .ref (ad 0)), (3, .ref (ob))]) hx hb dL_law_2624 hl (k := 6) rfl rfl (by decide) rfl (fun ls hl => ?_)
        refine lv_goto (tgt := 23) hx hb dL_law_2627 (by decide) ?_
        have hP : va_P g.1 az_cl (((az_ou g ob o2159.2.1 :: az_wF g ax an au aw o2159.2.2.1 o2159.2.2.2.1 o2159.2.2.2.2.1 o2159.2.2.2.2.2) ++ az_cM g ad (va_up Mo 2 o2171.2))) _ := hP
        have hD : va_D A (((az_ou g ob o2159.2.1 :: az_wF g ax an au aw o2159.2.2.1 o2159.2.2.2.1 o2159.2.2.2.2.1 o2159.2.2.2.2.2) ++ az_cM g ad (va_up Mo 2 o2171.2))) := hD
        exact ih _ _ _ _ _ _ _ _ _ _ _ _ (by omega) (by omega) h hP hD hS (lv_sub hl [3, 4, 5, 6, 0] rfl)
      · replace h := az_neg c2199 h
        refine lv_iconst (v := (0 : Int32)) hx hb dL_law_2202 (by decide) ?_
        exact absurd (Option.some.inj h) (by decide)
  · replace h := az_neg c2182 h
    refine lv_iconst (v := (0 : Int32)) hx hb dL_law_2185 (by decide) ?_
    exact absurd (Option.some.inj h) (by decide)
set_option maxHeartbeats 8000000 in
set_option maxRecDepth 100000 in
theorem LWC35 {p : Program} {e : Env} {s : State} {m : MethodId} {below : List Frame} {meth : Method} {c : Code} (l : Launch) (hst : l.stackTraces = false) {b L : Nat} {xs : Nat → Int32} (hL : L ≤ 2048) (C0 : lw_At p s m meth c b L xs) (g : az_G) (sa : Nat → Nat) (ax an au : Nat → Nat) (aw : Nat → Nat → Nat) (ob : Nat) (ad : Nat → Nat) (hX : va_X b L xs s s.heap) (hbl : b < s.heap.size) (hbA : ¬ (fun q : Nat => s.heap.size ≤ q) b) (hcx : az_cx sa (fun q : Nat => s.heap.size ≤ q) s s.heap) (hA : ∀ q : Nat, s.heap.size ≤ q → (fun q : Nat => s.heap.size ≤ q) q) (hK : va_K g.1 az_cl (az_tys g) s) (hts : ∀ w ∈ wsL_law, w.before #[Value.ref b] s = true) (n : Nat) (ih : ∀ (cn sn : Nat) (V T : az_St) (S : Nat → az_St) (hs : Nat → Int32) (Mo : az_St) (f : Nat → Int64) (y4 : Int32) (H : Heap) (locs : List Loc) (ls : Array Slot), cn + 6 * n ≤ 5000 → sn + 36 * n ≤ 60000 → F_law_L n xs L V T S hs Mo f y4 = some 1 → va_P g.1 az_cl (((az_ou g ob f :: az_wF g ax an au aw V T S hs) ++ az_cM g ad Mo)) H → va_D (fun q : Nat => s.heap.size ≤ q) (((az_ou g ob f :: az_wF g ax an au aw V T S hs) ++ az_cM g ad Mo)) → va_S (fun q : Nat => s.heap.size ≤ q) s.heap H locs → lv_has ls 7 [(0, .ref (b)), (1, .ref (ax 0)), (2, .ref (ad 0)), (3, .ref (ob)), (4, .int y4)] → W p l e room_1 s m #[Value.ref b] below meth c H locs cn sn (lw_Z below #[Value.ref b] s) (F0 m 23 ls [])) : ∀ (cn sn : Nat) (V T : az_St) (S : Nat → az_St) (hs : Nat → Int32) (Mo : az_St) (f : Nat → Int64) (y4 : Int32) (H : Heap) (locs : List Loc) (ls : Array Slot), cn + 6 * (n + 1) ≤ 5000 → sn + 36 * (n + 1) ≤ 60000 → ¬ ((Int32.ofNat L) - (4 : Int32) < y4) → az_in y4 L = true → F_law_C35 (fun V T S hs Mo f y4 => F_law_L n xs L V T S hs Mo f y4) xs L V T S hs Mo f y4 = some 1 → va_P g.1 az_cl (((az_ou g ob f :: az_wF g ax an au aw V T S hs) ++ az_cM g ad Mo)) H → va_D (fun q : Nat => s.heap.size ≤ q) (((az_ou g ob f :: az_wF g ax an au aw V T S hs) ++ az_cM g ad Mo)) → va_S (fun q : Nat => s.heap.size ≤ q) s.heap H locs → lv_has ls 7 [(0, .ref (b)), (1, .ref (ax 0)), (2, .ref (ad 0)), (3, .ref (ob)), (4, .int y4)] → W p l e room_1 s m #[Value.ref b] below meth c H locs cn sn (lw_Z below #[Value.ref b] s) (F0 m 2207 ls []) := by
  intro cn sn V T S hs Mo f y4 H locs ls hcn hsn c29 i35 h hP hD hS hl
  obtain ⟨hx, hb, hr, hml, hown, -, -, -, hlocks, -⟩ := id C0
  unfold F_law_C35 at h
  obtain ⟨A, eA⟩ : ∃ A : Nat → Prop, A = (fun q : Nat => s.heap.size ≤ q) := ⟨_, rfl⟩
  rw [← eA] at hbA hcx hA hD hS ih
  refine lv_aload_n hx hb dL_law_2207 rfl (lv_at hl 1 rfl) ?_
  obtain ⟨o2208, hc2208, h⟩ := az_bnd h
  refine az_callPi (w2 := ((az_ou g ob f :: az_wF g ax an au aw (va_up (va_up (va_up (va_up (va_up (va_up (va_up (va_up (va_up V 0 o2208.2.2.1) 1 o2208.2.2.2.1) 2 o2208.2.2.2.2.1) 5 o2208.2.2.2.2.2.1) 6 o2208.2.2.2.2.2.2.1) 7 o2208.2.2.2.2.2.2.2.1) 8 o2208.2.2.2.2.2.2.2.2.1) 9 o2208.2.2.2.2.2.2.2.2.2.1) 10 o2208.2.2.2.2.2.2.2.2.2.2.1) T o2208.2.1 o2208.2.2.2.2.2.2.2.2.2.2.2) ++ az_cM g ad Mo)) (As := []) (rest := []) ⟨hx, hb, hml, hown, hts⟩ hl.1 (kX6_reclaim l g ax an au aw V T S hs  o2208 hc2208) (cwV 0 hts gL_law_X6_reclaim rfl rfl rfl (by decide +kernel) ⟨(Nat.le_of_ble_eq_true rfl), (Nat.le_of_ble_eq_true rfl)⟩) rfl hK hP hD hS hA (az_pm [az_ou g ob f] (az_wF g ax an au aw V T S hs) (az_cM g ad Mo)) (az_pm [az_ou g ob f] (az_wF g ax an au aw (va_up (va_up (va_up (va_up (va_up (va_up (va_up (va_up (va_up V 0 o2208.2.2.1) 1 o2208.2.2.2.1) 2 o2208.2.2.2.2.1) 5 o2208.2.2.2.2.2.1) 6 o2208.2.2.2.2.2.2.1) 7 o2208.2.2.2.2.2.2.2.1) 8 o2208.2.2.2.2.2.2.2.2.1) 9 o2208.2.2.2.2.2.2.2.2.2.1) 10 o2208.2.2.2.2.2.2.2.2.2.2.1) T o2208.2.1 o2208.2.2.2.2.2.2.2.2.2.2.2) (az_cM g ad Mo)).symm 0 rfl rfl rfl (Nat.le_of_ble_eq_true rfl) dL_law_2208 ⟨by show _ ≤ 601024; omega, by show _ ≤ 7293034; omega⟩ rfl (fun H locs hP hD hS => ?_)
  have hP : va_P g.1 az_cl (((az_ou g ob f :: az_wF g ax an au aw (va_up (va_up (va_up (va_up (va_up (va_up (va_up (va_up (va_up V 0 o2208.2.2.1) 1 o2208.2.2.2.1) 2 o2208.2.2.2.2.1) 5 o2208.2.2.2.2.2.1) 6 o2208.2.2.2.2.2.2.1) 7 o2208.2.2.2.2.2.2.2.1) 8 o2208.2.2.2.2.2.2.2.2.1) 9 o2208.2.2.2.2.2.2.2.2.2.1) 10 o2208.2.2.2.2.2.2.2.2.2.2.1) T o2208.2.1 o2208.2.2.2.2.2.2.2.2.2.2.2) ++ az_cM g ad Mo)) _ := hP
  have hD : va_D A (((az_ou g ob f :: az_wF g ax an au aw (va_up (va_up (va_up (va_up (va_up (va_up (va_up (va_up (va_up V 0 o2208.2.2.1) 1 o2208.2.2.2.1) 2 o2208.2.2.2.2.1) 5 o2208.2.2.2.2.2.1) 6 o2208.2.2.2.2.2.2.1) 7 o2208.2.2.2.2.2.2.2.1) 8 o2208.2.2.2.2.2.2.2.2.1) 9 o2208.2.2.2.2.2.2.2.2.2.1) 10 o2208.2.2.2.2.2.2.2.2.2.2.1) T o2208.2.1 o2208.2.2.2.2.2.2.2.2.2.2.2) ++ az_cM g ad Mo)) := hD
  refine lv_aload_n hx hb dL_law_2211 rfl (lv_at hl 2 rfl) ?_
  obtain ⟨o2212, hc2212, h⟩ := az_bnd h
  refine az_callPi (wr := (az_ou g ob f :: az_wF g ax an au aw (va_up (va_up (va_up (va_up (va_up (va_up (va_up (va_up (va_up V 0 o2208.2.2.1) 1 o2208.2.2.2.1) 2 o2208.2.2.2.2.1) 5 o2208.2.2.2.2.2.1) 6 o2208.2.2.2.2.2.2.1) 7 o2208.2.2.2.2.2.2.2.1) 8 o2208.2.2.2.2.2.2.2.2.1) 9 o2208.2.2.2.2.2.2.2.2.2.1) 10 o2208.2.2.2.2.2.2.2.2.2.2.1) T o2208.2.1 o2208.2.2.2.2.2.2.2.2.2.2.2)) (w2 := ((az_ou g ob f :: az_wF g ax an au aw (va_up (va_up (va_up (va_up (va_up (va_up (va_up (va_up (va_up V 0 o2208.2.2.1) 1 o2208.2.2.2.1) 2 o2208.2.2.2.2.1) 5 o2208.2.2.2.2.2.1) 6 o2208.2.2.2.2.2.2.1) 7 o2208.2.2.2.2.2.2.2.1) 8 o2208.2.2.2.2.2.2.2.2.1) 9 o2208.2.2.2.2.2.2.2.2.2.1) 10 o2208.2.2.2.2.2.2.2.2.2.2.1) T o2208.2.1 o2208.2.2.2.2.2.2.2.2.2.2.2) ++ az_cM g ad (va_up (va_up (va_up Mo 0 o2212.2.1) 1 o2212.2.2.1) 2 o2212.2.2.2))) (As := []) (rest := [.int o2208.1]) ⟨hx, hb, hml, hown, hts⟩ hl.1 (kX7_reclaim l g ad Mo  o2212 hc2212) (cwV 0 hts gL_law_X7_reclaim rfl rfl rfl (by decide +kernel) ⟨(Nat.le_of_ble_eq_true rfl), (Nat.le_of_ble_eq_true rfl)⟩) rfl hK hP hD hS hA List.perm_append_comm List.perm_append_comm 0 rfl rfl rfl (Nat.le_of_ble_eq_true rfl) dL_law_2212 ⟨by show _ ≤ 601024; omega, by show _ ≤ 7293034; omega⟩ rfl (fun H locs hP hD hS => ?_)
  have hP : va_P g.1 az_cl (((az_ou g ob f :: az_wF g ax an au aw (va_up (va_up (va_up (va_up (va_up (va_up (va_up (va_up (va_up V 0 o2208.2.2.1) 1 o2208.2.2.2.1) 2 o2208.2.2.2.2.1) 5 o2208.2.2.2.2.2.1) 6 o2208.2.2.2.2.2.2.1) 7 o2208.2.2.2.2.2.2.2.1) 8 o2208.2.2.2.2.2.2.2.2.1) 9 o2208.2.2.2.2.2.2.2.2.2.1) 10 o2208.2.2.2.2.2.2.2.2.2.2.1) T o2208.2.1 o2208.2.2.2.2.2.2.2.2.2.2.2) ++ az_cM g ad (va_up (va_up (va_up Mo 0 o2212.2.1) 1 o2212.2.2.1) 2 o2212.2.2.2))) _ := hP
  have hD : va_D A (((az_ou g ob f :: az_wF g ax an au aw (va_up (va_up (va_up (va_up (va_up (va_up (va_up (va_up (va_up V 0 o2208.2.2.1) 1 o2208.2.2.2.1) 2 o2208.2.2.2.2.1) 5 o2208.2.2.2.2.2.1) 6 o2208.2.2.2.2.2.2.1) 7 o2208.2.2.2.2.2.2.2.1) 8 o2208.2.2.2.2.2.2.2.2.1) 9 o2208.2.2.2.2.2.2.2.2.2.1) 10 o2208.2.2.2.2.2.2.2.2.2.2.1) T o2208.2.1 o2208.2.2.2.2.2.2.2.2.2.2.2) ++ az_cM g ad (va_up (va_up (va_up Mo 0 o2212.2.1) 1 o2212.2.2.1) 2 o2212.2.2.2))) := hD
  refine lv_icmp_eq (tgt := 2624) hx hb dL_law_2215 (by decide) (fun c2215 => ?_) (fun c2215 => ?_)
  · replace h := az_pos c2215 h
    refine lv_iinc (v := y4 + (4 : Int32)) (lv' := [(4, .int (y4 + (4 : Int32))), (0, .ref (b)), (1, .ref (ax 0)), (2, .ref (ad 0)), (3, .ref (ob))]) hx hb dL_law_2624 hl (k := 4) rfl rfl (by decide) rfl (fun ls hl => ?_)
    refine lv_goto (tgt := 23) hx hb dL_law_2627 (by decide) ?_
    have hP : va_P g.1 az_cl (((az_ou g ob f :: az_wF g ax an au aw (va_up (va_up (va_up (va_up (va_up (va_up (va_up (va_up (va_up V 0 o2208.2.2.1) 1 o2208.2.2.2.1) 2 o2208.2.2.2.2.1) 5 o2208.2.2.2.2.2.1) 6 o2208.2.2.2.2.2.2.1) 7 o2208.2.2.2.2.2.2.2.1) 8 o2208.2.2.2.2.2.2.2.2.1) 9 o2208.2.2.2.2.2.2.2.2.2.1) 10 o2208.2.2.2.2.2.2.2.2.2.2.1) T o2208.2.1 o2208.2.2.2.2.2.2.2.2.2.2.2) ++ az_cM g ad (va_up (va_up (va_up Mo 0 o2212.2.1) 1 o2212.2.2.1) 2 o2212.2.2.2))) _ := hP
    have hD : va_D A (((az_ou g ob f :: az_wF g ax an au aw (va_up (va_up (va_up (va_up (va_up (va_up (va_up (va_up (va_up V 0 o2208.2.2.1) 1 o2208.2.2.2.1) 2 o2208.2.2.2.2.1) 5 o2208.2.2.2.2.2.1) 6 o2208.2.2.2.2.2.2.1) 7 o2208.2.2.2.2.2.2.2.1) 8 o2208.2.2.2.2.2.2.2.2.1) 9 o2208.2.2.2.2.2.2.2.2.2.1) 10 o2208.2.2.2.2.2.2.2.2.2.2.1) T o2208.2.1 o2208.2.2.2.2.2.2.2.2.2.2.2) ++ az_cM g ad (va_up (va_up (va_up Mo 0 o2212.2.1) 1 o2212.2.2.1) 2 o2212.2.2.2))) := hD
    exact ih _ _ _ _ _ _ _ _ _ _ _ _ (by omega) (by omega) h hP hD hS (lv_sub hl [1, 2, 3, 4, 0] rfl)
  · replace h := az_neg c2215 h
    refine lv_iconst (v := (0 : Int32)) hx hb dL_law_2218 (by decide) ?_
    exact absurd (Option.some.inj h) (by decide)
set_option maxHeartbeats 8000000 in
set_option maxRecDepth 100000 in
theorem LWC36 {p : Program} {e : Env} {s : State} {m : MethodId} {below : List Frame} {meth : Method} {c : Code} (l : Launch) (hst : l.stackTraces = false) {b L : Nat} {xs : Nat → Int32} (hL : L ≤ 2048) (C0 : lw_At p s m meth c b L xs) (g : az_G) (sa : Nat → Nat) (ax an au : Nat → Nat) (aw : Nat → Nat → Nat) (ob : Nat) (ad : Nat → Nat) (hX : va_X b L xs s s.heap) (hbl : b < s.heap.size) (hbA : ¬ (fun q : Nat => s.heap.size ≤ q) b) (hcx : az_cx sa (fun q : Nat => s.heap.size ≤ q) s s.heap) (hA : ∀ q : Nat, s.heap.size ≤ q → (fun q : Nat => s.heap.size ≤ q) q) (hK : va_K g.1 az_cl (az_tys g) s) (hts : ∀ w ∈ wsL_law, w.before #[Value.ref b] s = true) (n : Nat) (ih : ∀ (cn sn : Nat) (V T : az_St) (S : Nat → az_St) (hs : Nat → Int32) (Mo : az_St) (f : Nat → Int64) (y4 : Int32) (H : Heap) (locs : List Loc) (ls : Array Slot), cn + 6 * n ≤ 5000 → sn + 36 * n ≤ 60000 → F_law_L n xs L V T S hs Mo f y4 = some 1 → va_P g.1 az_cl (((az_ou g ob f :: az_wF g ax an au aw V T S hs) ++ az_cM g ad Mo)) H → va_D (fun q : Nat => s.heap.size ≤ q) (((az_ou g ob f :: az_wF g ax an au aw V T S hs) ++ az_cM g ad Mo)) → va_S (fun q : Nat => s.heap.size ≤ q) s.heap H locs → lv_has ls 7 [(0, .ref (b)), (1, .ref (ax 0)), (2, .ref (ad 0)), (3, .ref (ob)), (4, .int y4)] → W p l e room_1 s m #[Value.ref b] below meth c H locs cn sn (lw_Z below #[Value.ref b] s) (F0 m 23 ls [])) : ∀ (cn sn : Nat) (V T : az_St) (S : Nat → az_St) (hs : Nat → Int32) (Mo : az_St) (f : Nat → Int64) (y4 : Int32) (H : Heap) (locs : List Loc) (ls : Array Slot), cn + 6 * (n + 1) ≤ 5000 → sn + 36 * (n + 1) ≤ 60000 → ¬ ((Int32.ofNat L) - (4 : Int32) < y4) → az_in y4 L = true → F_law_C36 (fun V T S hs Mo f y4 => F_law_L n xs L V T S hs Mo f y4) xs L V T S hs Mo f y4 = some 1 → va_P g.1 az_cl (((az_ou g ob f :: az_wF g ax an au aw V T S hs) ++ az_cM g ad Mo)) H → va_D (fun q : Nat => s.heap.size ≤ q) (((az_ou g ob f :: az_wF g ax an au aw V T S hs) ++ az_cM g ad Mo)) → va_S (fun q : Nat => s.heap.size ≤ q) s.heap H locs → lv_has ls 7 [(0, .ref (b)), (1, .ref (ax 0)), (2, .ref (ad 0)), (3, .ref (ob)), (4, .int y4)] → W p l e room_1 s m #[Value.ref b] below meth c H locs cn sn (lw_Z below #[Value.ref b] s) (F0 m 2220 ls []) := by
  intro cn sn V T S hs Mo f y4 H locs ls hcn hsn c29 i35 h hP hD hS hl
  obtain ⟨hx, hb, hr, hml, hown, -, -, -, hlocks, -⟩ := id C0
  unfold F_law_C36 at h
  obtain ⟨A, eA⟩ : ∃ A : Nat → Prop, A = (fun q : Nat => s.heap.size ≤ q) := ⟨_, rfl⟩
  rw [← eA] at hbA hcx hA hD hS ih
  refine lv_aload_n hx hb dL_law_2220 rfl (lv_at hl 1 rfl) ?_
  obtain ⟨o2221, hc2221, h⟩ := az_bnd h
  refine az_callPi (w2 := ((az_ou g ob f :: az_wF g ax an au aw V T S hs) ++ az_cM g ad Mo)) (As := []) (rest := []) ⟨hx, hb, hml, hown, hts⟩ hl.1 (kX6_wouldErase l g ax an au (az_cV g au T ++ az_cH g ax aw S hs) V  o2221 hc2221) (cwV 0 hts gL_law_X6_wouldErase rfl rfl rfl (by decide +kernel) ⟨(Nat.le_of_ble_eq_true rfl), (Nat.le_of_ble_eq_true rfl)⟩) rfl hK hP hD hS hA (az_pm [az_ou g ob f] (az_wF g ax an au aw V T S hs) (az_cM g ad Mo)) (az_pm [az_ou g ob f] (az_wF g ax an au aw V T S hs) (az_cM g ad Mo)).symm 0 rfl rfl rfl (Nat.le_of_ble_eq_true rfl) dL_law_2221 ⟨by show _ ≤ 601024; omega, by show _ ≤ 7293034; omega⟩ rfl (fun H locs hP hD hS => ?_)
  have hP : va_P g.1 az_cl (((az_ou g ob f :: az_wF g ax an au aw V T S hs) ++ az_cM g ad Mo)) _ := hP
  have hD : va_D A (((az_ou g ob f :: az_wF g ax an au aw V T S hs) ++ az_cM g ad Mo)) := hD
  refine lv_aload_n hx hb dL_law_2224 rfl (lv_at hl 2 rfl) ?_
  obtain ⟨o2225, hc2225, h⟩ := az_bnd h
  refine az_callPi (wr := (az_ou g ob f :: az_wF g ax an au aw V T S hs)) (w2 := ((az_ou g ob f :: az_wF g ax an au aw V T S hs) ++ az_cM g ad (va_up Mo 2 o2225.2))) (As := []) (rest := [.int o2221]) ⟨hx, hb, hml, hown, hts⟩ hl.1 (kX7_wouldErase l g ad Mo  o2225 hc2225) (cwV 0 hts gL_law_X7_wouldErase rfl rfl rfl (by decide +kernel) ⟨(Nat.le_of_ble_eq_true rfl), (Nat.le_of_ble_eq_true rfl)⟩) rfl hK hP hD hS hA List.perm_append_comm List.perm_append_comm 0 rfl rfl rfl (Nat.le_of_ble_eq_true rfl) dL_law_2225 ⟨by show _ ≤ 601024; omega, by show _ ≤ 7293034; omega⟩ rfl (fun H locs hP hD hS => ?_)
  have hP : va_P g.1 az_cl (((az_ou g ob f :: az_wF g ax an au aw V T S hs) ++ az_cM g ad (va_up Mo 2 o2225.2))) _ := hP
  have hD : va_D A (((az_ou g ob f :: az_wF g ax an au aw V T S hs) ++ az_cM g ad (va_up Mo 2 o2225.2))) := hD
  refine lv_icmp_eq (tgt := 2624) hx hb dL_law_2228 (by decide) (fun c2228 => ?_) (fun c2228 => ?_)
  · replace h := az_pos c2228 h
    refine lv_iinc (v := y4 + (4 : Int32)) (lv' := [(4, .int (y4 + (4 : Int32))), (0, .ref (b)), (1, .ref (ax 0)), (2, .ref (ad 0)), (3, .ref (ob))]) hx hb dL_law_2624 hl (k := 4) rfl rfl (by decide) rfl (fun ls hl => ?_)
    refine lv_goto (tgt := 23) hx hb dL_law_2627 (by decide) ?_
    have hP : va_P g.1 az_cl (((az_ou g ob f :: az_wF g ax an au aw V T S hs) ++ az_cM g ad (va_up Mo 2 o2225.2))) _ := hP
    have hD : va_D A (((az_ou g ob f :: az_wF g ax an au aw V T S hs) ++ az_cM g ad (va_up Mo 2 o2225.2))) := hD
    exact ih _ _ _ _ _ _ _ _ _ _ _ _ (by omega) (by omega) h hP hD hS (lv_sub hl [1, 2, 3, 4, 0] rfl)
  · replace h := az_neg c2228 h
    refine lv_iconst (v := (0 : Int32)) hx hb dL_law_2231 (by decide) ?_
    exact absurd (Option.some.inj h) (by decide)
set_option maxHeartbeats 8000000 in
set_option maxRecDepth 100000 in
theorem LWC37 {p : Program} {e : Env} {s : State} {m : MethodId} {below : List Frame} {meth : Method} {c : Code} (l : Launch) (hst : l.stackTraces = false) {b L : Nat} {xs : Nat → Int32} (hL : L ≤ 2048) (C0 : lw_At p s m meth c b L xs) (g : az_G) (sa : Nat → Nat) (ax an au : Nat → Nat) (aw : Nat → Nat → Nat) (ob : Nat) (ad : Nat → Nat) (hX : va_X b L xs s s.heap) (hbl : b < s.heap.size) (hbA : ¬ (fun q : Nat => s.heap.size ≤ q) b) (hcx : az_cx sa (fun q : Nat => s.heap.size ≤ q) s s.heap) (hA : ∀ q : Nat, s.heap.size ≤ q → (fun q : Nat => s.heap.size ≤ q) q) (hK : va_K g.1 az_cl (az_tys g) s) (hts : ∀ w ∈ wsL_law, w.before #[Value.ref b] s = true) (n : Nat) (ih : ∀ (cn sn : Nat) (V T : az_St) (S : Nat → az_St) (hs : Nat → Int32) (Mo : az_St) (f : Nat → Int64) (y4 : Int32) (H : Heap) (locs : List Loc) (ls : Array Slot), cn + 6 * n ≤ 5000 → sn + 36 * n ≤ 60000 → F_law_L n xs L V T S hs Mo f y4 = some 1 → va_P g.1 az_cl (((az_ou g ob f :: az_wF g ax an au aw V T S hs) ++ az_cM g ad Mo)) H → va_D (fun q : Nat => s.heap.size ≤ q) (((az_ou g ob f :: az_wF g ax an au aw V T S hs) ++ az_cM g ad Mo)) → va_S (fun q : Nat => s.heap.size ≤ q) s.heap H locs → lv_has ls 7 [(0, .ref (b)), (1, .ref (ax 0)), (2, .ref (ad 0)), (3, .ref (ob)), (4, .int y4)] → W p l e room_1 s m #[Value.ref b] below meth c H locs cn sn (lw_Z below #[Value.ref b] s) (F0 m 23 ls [])) : ∀ (cn sn : Nat) (V T : az_St) (S : Nat → az_St) (hs : Nat → Int32) (Mo : az_St) (f : Nat → Int64) (y4 : Int32) (H : Heap) (locs : List Loc) (ls : Array Slot), cn + 6 * (n + 1) ≤ 5000 → sn + 36 * (n + 1) ≤ 60000 → ¬ ((Int32.ofNat L) - (4 : Int32) < y4) → az_in y4 L = true → F_law_C37 (fun V T S hs Mo f y4 => F_law_L n xs L V T S hs Mo f y4) xs L V T S hs Mo f y4 = some 1 → va_P g.1 az_cl (((az_ou g ob f :: az_wF g ax an au aw V T S hs) ++ az_cM g ad Mo)) H → va_D (fun q : Nat => s.heap.size ≤ q) (((az_ou g ob f :: az_wF g ax an au aw V T S hs) ++ az_cM g ad Mo)) → va_S (fun q : Nat => s.heap.size ≤ q) s.heap H locs → lv_has ls 7 [(0, .ref (b)), (1, .ref (ax 0)), (2, .ref (ad 0)), (3, .ref (ob)), (4, .int y4)] → W p l e room_1 s m #[Value.ref b] below meth c H locs cn sn (lw_Z below #[Value.ref b] s) (F0 m 2233 ls []) := by
  intro cn sn V T S hs Mo f y4 H locs ls hcn hsn c29 i35 h hP hD hS hl
  obtain ⟨hx, hb, hr, hml, hown, -, -, -, hlocks, -⟩ := id C0
  unfold F_law_C37 at h
  obtain ⟨A, eA⟩ : ∃ A : Nat → Prop, A = (fun q : Nat => s.heap.size ≤ q) := ⟨_, rfl⟩
  rw [← eA] at hbA hcx hA hD hS ih
  refine lv_aload_n hx hb dL_law_2233 rfl (lv_at hl 1 rfl) ?_
  refine lv_aload_n hx hb dL_law_2234 rfl (lv_at hl 0 rfl) ?_
  refine lv_iload hx hb dL_law_2235 (lv_at hl 4 rfl) ?_
  refine lv_iconst (v := (1 : Int32)) hx hb dL_law_2237 (by decide) ?_
  refine lv_iadd hx hb dL_law_2238 ?_
  obtain ⟨i2239, h⟩ := az_ite h
  refine va_sld hx hb hX hbl hbA hS (az_vin i2239) dL_law_2239 ?_
  refine lv_aload_n hx hb dL_law_2240 rfl (lv_at hl 3 rfl) ?_
  obtain ⟨o2241, hc2241, h⟩ := az_bnd h
  refine az_callLW (wr := az_cM g ad Mo) (As := [.ref (ax 0), .int (xs (y4 + (1 : Int32)).toNatClampNeg), .ref (ob)]) (rest := []) ⟨hx, hb, hml, hown, hts⟩ hl.1 (kL_advancesToErase l hst g sa ax an au aw ob V T S hs f (xs (y4 + (1 : Int32)).toNatClampNeg) o2241 hc2241) (vx_cwSW (hh := [(0, 9, 12, 19), (0, 9, 15, 27)]) 3 hts gL_law_L_advancesToErase rfl rfl rfl (by decide +kernel) ⟨(Nat.le_of_ble_eq_true rfl), (Nat.le_of_ble_eq_true rfl)⟩) rfl hK hcx hP hD hS hA (Nat.le_of_ble_eq_true rfl) dL_law_2241 ⟨by show _ ≤ 601024; omega, by show _ ≤ 7293034; omega⟩ rfl (fun H locs hP hD hS => ?_)
  have hP : va_P g.1 az_cl (((az_ou g ob o2241.2.1 :: az_wF g ax an au aw o2241.2.2.1 o2241.2.2.2.1 o2241.2.2.2.2.1 o2241.2.2.2.2.2) ++ az_cM g ad Mo)) _ := hP
  have hD : va_D A (((az_ou g ob o2241.2.1 :: az_wF g ax an au aw o2241.2.2.1 o2241.2.2.2.1 o2241.2.2.2.2.1 o2241.2.2.2.2.2) ++ az_cM g ad Mo)) := hD
  refine lv_istore (lv' := [(5, .int o2241.1), (0, .ref (b)), (1, .ref (ax 0)), (2, .ref (ad 0)), (3, .ref (ob)), (4, .int y4)]) hx hb dL_law_2244 hl (by decide) rfl (fun ls hl => ?_)
  refine lv_aload_n hx hb dL_law_2246 rfl (lv_at hl 3 rfl) ?_
  refine lv_aload_n hx hb dL_law_2247 rfl (lv_at hl 1 rfl) ?_
  refine lv_iload hx hb dL_law_2248 (lv_at hl 5 rfl) ?_
  refine lv_iconst (v := (1 : Int32)) hx hb dL_law_2250 (by decide) ?_
  refine lv_iadd hx hb dL_law_2251 ?_
  refine va_sld hx hb hX hbl hbA hS (az_vin i2239) dL_law_2252 ?_
  obtain ⟨o2253, hc2253, h⟩ := az_bnd h
  refine az_callPi (wr := (az_ou g ob o2241.2.1 :: az_wF g ax an au aw o2241.2.2.1 o2241.2.2.2.1 o2241.2.2.2.2.1 o2241.2.2.2.2.2)) (w2 := ((az_ou g ob o2241.2.1 :: az_wF g ax an au aw o2241.2.2.1 o2241.2.2.2.1 o2241.2.2.2.2.1 o2241.2.2.2.2.2) ++ az_cM g ad (va_up Mo 2 o2253.2))) (As := [.int (xs (y4 + (1 : Int32)).toNatClampNeg)]) (rest := []) ⟨hx, hb, hml, hown, hts⟩ hl.1 (kX7_advancesToErase l g ad Mo (xs (y4 + (1 : Int32)).toNatClampNeg) o2253 hc2253) (cwV 1 hts gL_law_X7_advancesToErase rfl rfl rfl (by decide +kernel) ⟨(Nat.le_of_ble_eq_true rfl), (Nat.le_of_ble_eq_true rfl)⟩) rfl hK hP hD hS hA List.perm_append_comm List.perm_append_comm 0 rfl rfl rfl (Nat.le_of_ble_eq_true rfl) dL_law_2253 ⟨by show _ ≤ 601024; omega, by show _ ≤ 7293034; omega⟩ rfl (fun H locs hP hD hS => ?_)
  have hP : va_P g.1 az_cl (((az_ou g ob o2241.2.1 :: az_wF g ax an au aw o2241.2.2.1 o2241.2.2.2.1 o2241.2.2.2.2.1 o2241.2.2.2.2.2) ++ az_cM g ad (va_up Mo 2 o2253.2))) _ := hP
  have hD : va_D A (((az_ou g ob o2241.2.1 :: az_wF g ax an au aw o2241.2.2.1 o2241.2.2.2.1 o2241.2.2.2.2.1 o2241.2.2.2.2.2) ++ az_cM g ad (va_up Mo 2 o2253.2))) := hD
  refine lv_istore (lv' := [(6, .int o2253.1), (5, .int o2241.1), (0, .ref (b)), (1, .ref (ax 0)), (2, .ref (ad 0)), (3, .ref (ob)), (4, .int y4)]) hx hb dL_law_2256 hl (by decide) rfl (fun ls hl => ?_)
  refine lv_aload_n hx hb dL_law_2258 rfl (lv_at hl 4 rfl) ?_
  obtain ⟨o2259, hc2259, h⟩ := az_bnd h
  refine az_callPi (wr := (az_ou g ob o2241.2.1 :: az_wF g ax an au aw o2241.2.2.1 o2241.2.2.2.1 o2241.2.2.2.2.1 o2241.2.2.2.2.2)) (w2 := ((az_ou g ob o2241.2.1 :: az_wF g ax an au aw o2241.2.2.1 o2241.2.2.2.1 o2241.2.2.2.2.1 o2241.2.2.2.2.2) ++ az_cM g ad (va_up Mo 2 o2253.2))) (As := []) (rest := []) ⟨hx, hb, hml, hown, hts⟩ hl.1 (kX7_thrown l g ad (va_up Mo 2 o2253.2)  o2259 hc2259) (cwV 0 hts gL_law_X7_thrown rfl rfl rfl (by decide +kernel) ⟨(Nat.le_of_ble_eq_true rfl), (Nat.le_of_ble_eq_true rfl)⟩) rfl hK hP hD hS hA List.perm_append_comm List.perm_append_comm 0 rfl rfl rfl (Nat.le_of_ble_eq_true rfl) dL_law_2259 ⟨by show _ ≤ 601024; omega, by show _ ≤ 7293034; omega⟩ rfl (fun H locs hP hD hS => ?_)
  have hP : va_P g.1 az_cl (((az_ou g ob o2241.2.1 :: az_wF g ax an au aw o2241.2.2.1 o2241.2.2.2.1 o2241.2.2.2.2.1 o2241.2.2.2.2.2) ++ az_cM g ad (va_up Mo 2 o2253.2))) _ := hP
  have hD : va_D A (((az_ou g ob o2241.2.1 :: az_wF g ax an au aw o2241.2.2.1 o2241.2.2.2.1 o2241.2.2.2.2.1 o2241.2.2.2.2.2) ++ az_cM g ad (va_up Mo 2 o2253.2))) := hD
  refine lv_iload hx hb dL_law_2262 (lv_at hl 1 rfl) ?_
  refine lv_icmp_eq (tgt := 2269) hx hb dL_law_2264 (by decide) (fun c2264 => ?_) (fun c2264 => ?_)
  · replace h := az_pos c2264 h
    refine lv_iload hx hb dL_law_2269 (lv_at hl 1 rfl) ?_
    refine lv_if_ne (tgt := 2286) hx hb dL_law_2271 (by decide) (fun c2271 => ?_) (fun c2271 => ?_)
    · replace h := az_neg c2271 h
      refine lv_goto (tgt := 2624) hx hb dL_law_2286 (by decide) ?_
      refine lv_iinc (v := y4 + (4 : Int32)) (lv' := [(4, .int (y4 + (4 : Int32))), (6, .int o2253.1), (5, .int o2241.1), (0, .ref (b)), (1, .ref (ax 0)), (2, .ref (ad 0)), (3, .ref (ob))]) hx hb dL_law_2624 hl (k := 6) rfl rfl (by decide) rfl (fun ls hl => ?_)
      refine lv_goto (tgt := 23) hx hb dL_law_2627 (by decide) ?_
      have hP : va_P g.1 az_cl (((az_ou g ob o2241.2.1 :: az_wF g ax an au aw o2241.2.2.1 o2241.2.2.2.1 o2241.2.2.2.2.1 o2241.2.2.2.2.2) ++ az_cM g ad (va_up Mo 2 o2253.2))) _ := hP
      have hD : va_D A (((az_ou g ob o2241.2.1 :: az_wF g ax an au aw o2241.2.2.1 o2241.2.2.2.1 o2241.2.2.2.2.1 o2241.2.2.2.2.2) ++ az_cM g ad (va_up Mo 2 o2253.2))) := hD
      exact ih _ _ _ _ _ _ _ _ _ _ _ _ (by omega) (by omega) h hP hD hS (lv_sub hl [3, 4, 5, 6, 0] rfl)
    · replace h := az_pos c2271 h
      refine lv_aload_n hx hb dL_law_2274 rfl (lv_at hl 5 rfl) ?_
      refine lv_iconst (v := (0 : Int32)) hx hb dL_law_2275 (by decide) ?_
      refine va_lald (D := g.1) (f := o2241.2.1) hx hb hK hP 0 2 rfl rfl (az_vin (by decide +kernel)) dL_law_2276 ?_
      refine lv_iload hx hb dL_law_2277 (lv_at hl 0 rfl) ?_
      refine lv_i2l (v := o2253.1.toInt64) hx hb dL_law_2279 rfl ?_
      refine W.lcmp hx hb dL_law_2280 ?_
      refine lv_if_eq (tgt := 2286) hx hb dL_law_2281 (by decide) (fun c2281 => ?_) (fun c2281 => ?_)
      · replace h := az_pos c2281 h
        refine lv_goto (tgt := 2624) hx hb dL_law_2286 (by decide) ?_
        refine lv_iinc (v := y4 + (4 : Int32)) (lv' := [(4, .int (y4 + (4 : Int32))), (6, .int o2253.1), (5, .int o2241.1), (0, .ref (b)), (1, .ref (ax 0)), (2, .ref (ad 0)), (3, .ref (ob))]) hx hb dL_law_2624 hl (k := 6) rfl rfl (by decide) rfl (fun ls hl => ?_)
        refine lv_goto (tgt := 23) hx hb dL_law_2627 (by decide) ?_
        have hP : va_P g.1 az_cl (((az_ou g ob o2241.2.1 :: az_wF g ax an au aw o2241.2.2.1 o2241.2.2.2.1 o2241.2.2.2.2.1 o2241.2.2.2.2.2) ++ az_cM g ad (va_up Mo 2 o2253.2))) _ := hP
        have hD : va_D A (((az_ou g ob o2241.2.1 :: az_wF g ax an au aw o2241.2.2.1 o2241.2.2.2.1 o2241.2.2.2.2.1 o2241.2.2.2.2.2) ++ az_cM g ad (va_up Mo 2 o2253.2))) := hD
        exact ih _ _ _ _ _ _ _ _ _ _ _ _ (by omega) (by omega) h hP hD hS (lv_sub hl [3, 4, 5, 6, 0] rfl)
      · replace h := az_neg c2281 h
        refine lv_iconst (v := (0 : Int32)) hx hb dL_law_2284 (by decide) ?_
        exact absurd (Option.some.inj h) (by decide)
  · replace h := az_neg c2264 h
    refine lv_iconst (v := (0 : Int32)) hx hb dL_law_2267 (by decide) ?_
    exact absurd (Option.some.inj h) (by decide)
set_option maxHeartbeats 8000000 in
set_option maxRecDepth 100000 in
theorem LWC38 {p : Program} {e : Env} {s : State} {m : MethodId} {below : List Frame} {meth : Method} {c : Code} (l : Launch) (hst : l.stackTraces = false) {b L : Nat} {xs : Nat → Int32} (hL : L ≤ 2048) (C0 : lw_At p s m meth c b L xs) (g : az_G) (sa : Nat → Nat) (ax an au : Nat → Nat) (aw : Nat → Nat → Nat) (ob : Nat) (ad : Nat → Nat) (hX : va_X b L xs s s.heap) (hbl : b < s.heap.size) (hbA : ¬ (fun q : Nat => s.heap.size ≤ q) b) (hcx : az_cx sa (fun q : Nat => s.heap.size ≤ q) s s.heap) (hA : ∀ q : Nat, s.heap.size ≤ q → (fun q : Nat => s.heap.size ≤ q) q) (hK : va_K g.1 az_cl (az_tys g) s) (hts : ∀ w ∈ wsL_law, w.before #[Value.ref b] s = true) (n : Nat) (ih : ∀ (cn sn : Nat) (V T : az_St) (S : Nat → az_St) (hs : Nat → Int32) (Mo : az_St) (f : Nat → Int64) (y4 : Int32) (H : Heap) (locs : List Loc) (ls : Array Slot), cn + 6 * n ≤ 5000 → sn + 36 * n ≤ 60000 → F_law_L n xs L V T S hs Mo f y4 = some 1 → va_P g.1 az_cl (((az_ou g ob f :: az_wF g ax an au aw V T S hs) ++ az_cM g ad Mo)) H → va_D (fun q : Nat => s.heap.size ≤ q) (((az_ou g ob f :: az_wF g ax an au aw V T S hs) ++ az_cM g ad Mo)) → va_S (fun q : Nat => s.heap.size ≤ q) s.heap H locs → lv_has ls 7 [(0, .ref (b)), (1, .ref (ax 0)), (2, .ref (ad 0)), (3, .ref (ob)), (4, .int y4)] → W p l e room_1 s m #[Value.ref b] below meth c H locs cn sn (lw_Z below #[Value.ref b] s) (F0 m 23 ls [])) : ∀ (cn sn : Nat) (V T : az_St) (S : Nat → az_St) (hs : Nat → Int32) (Mo : az_St) (f : Nat → Int64) (y4 : Int32) (H : Heap) (locs : List Loc) (ls : Array Slot), cn + 6 * (n + 1) ≤ 5000 → sn + 36 * (n + 1) ≤ 60000 → ¬ ((Int32.ofNat L) - (4 : Int32) < y4) → az_in y4 L = true → F_law_C38 (fun V T S hs Mo f y4 => F_law_L n xs L V T S hs Mo f y4) xs L V T S hs Mo f y4 = some 1 → va_P g.1 az_cl (((az_ou g ob f :: az_wF g ax an au aw V T S hs) ++ az_cM g ad Mo)) H → va_D (fun q : Nat => s.heap.size ≤ q) (((az_ou g ob f :: az_wF g ax an au aw V T S hs) ++ az_cM g ad Mo)) → va_S (fun q : Nat => s.heap.size ≤ q) s.heap H locs → lv_has ls 7 [(0, .ref (b)), (1, .ref (ax 0)), (2, .ref (ad 0)), (3, .ref (ob)), (4, .int y4)] → W p l e room_1 s m #[Value.ref b] below meth c H locs cn sn (lw_Z below #[Value.ref b] s) (F0 m 2289 ls []) := by
  intro cn sn V T S hs Mo f y4 H locs ls hcn hsn c29 i35 h hP hD hS hl
  obtain ⟨hx, hb, hr, hml, hown, -, -, -, hlocks, -⟩ := id C0
  unfold F_law_C38 at h
  obtain ⟨A, eA⟩ : ∃ A : Nat → Prop, A = (fun q : Nat => s.heap.size ≤ q) := ⟨_, rfl⟩
  rw [← eA] at hbA hcx hA hD hS ih
  refine lv_aload_n hx hb dL_law_2289 rfl (lv_at hl 1 rfl) ?_
  refine lv_aload_n hx hb dL_law_2290 rfl (lv_at hl 0 rfl) ?_
  refine lv_iload hx hb dL_law_2291 (lv_at hl 4 rfl) ?_
  refine lv_iconst (v := (1 : Int32)) hx hb dL_law_2293 (by decide) ?_
  refine lv_iadd hx hb dL_law_2294 ?_
  obtain ⟨i2295, h⟩ := az_ite h
  refine va_sld hx hb hX hbl hbA hS (az_vin i2295) dL_law_2295 ?_
  refine lv_aload_n hx hb dL_law_2296 rfl (lv_at hl 3 rfl) ?_
  obtain ⟨o2297, hc2297, h⟩ := az_bnd h
  refine az_callLW (wr := az_cM g ad Mo) (As := [.ref (ax 0), .int (xs (y4 + (1 : Int32)).toNatClampNeg), .ref (ob)]) (rest := []) ⟨hx, hb, hml, hown, hts⟩ hl.1 (kL_relocate l hst g sa ax an au aw ob V T S hs f (xs (y4 + (1 : Int32)).toNatClampNeg) o2297 hc2297) (vx_cwSW (hh := [(0, 9, 12, 19), (0, 9, 15, 21)]) 3 hts gL_law_L_relocate rfl rfl rfl (by decide +kernel) ⟨(Nat.le_of_ble_eq_true rfl), (Nat.le_of_ble_eq_true rfl)⟩) rfl hK hcx hP hD hS hA (Nat.le_of_ble_eq_true rfl) dL_law_2297 ⟨by show _ ≤ 601024; omega, by show _ ≤ 7293034; omega⟩ rfl (fun H locs hP hD hS => ?_)
  have hP : va_P g.1 az_cl (((az_ou g ob o2297.2.1 :: az_wF g ax an au aw o2297.2.2.1 o2297.2.2.2.1 o2297.2.2.2.2.1 o2297.2.2.2.2.2) ++ az_cM g ad Mo)) _ := hP
  have hD : va_D A (((az_ou g ob o2297.2.1 :: az_wF g ax an au aw o2297.2.2.1 o2297.2.2.2.1 o2297.2.2.2.2.1 o2297.2.2.2.2.2) ++ az_cM g ad Mo)) := hD
  refine lv_istore (lv' := [(5, .int o2297.1), (0, .ref (b)), (1, .ref (ax 0)), (2, .ref (ad 0)), (3, .ref (ob)), (4, .int y4)]) hx hb dL_law_2300 hl (by decide) rfl (fun ls hl => ?_)
  refine lv_aload_n hx hb dL_law_2302 rfl (lv_at hl 3 rfl) ?_
  refine lv_aload_n hx hb dL_law_2303 rfl (lv_at hl 1 rfl) ?_
  refine lv_iload hx hb dL_law_2304 (lv_at hl 5 rfl) ?_
  refine lv_iconst (v := (1 : Int32)) hx hb dL_law_2306 (by decide) ?_
  refine lv_iadd hx hb dL_law_2307 ?_
  refine va_sld hx hb hX hbl hbA hS (az_vin i2295) dL_law_2308 ?_
  obtain ⟨o2309, hc2309, h⟩ := az_bnd h
  refine az_callPi (wr := (az_ou g ob o2297.2.1 :: az_wF g ax an au aw o2297.2.2.1 o2297.2.2.2.1 o2297.2.2.2.2.1 o2297.2.2.2.2.2)) (w2 := ((az_ou g ob o2297.2.1 :: az_wF g ax an au aw o2297.2.2.1 o2297.2.2.2.1 o2297.2.2.2.2.1 o2297.2.2.2.2.2) ++ az_cM g ad (va_up (va_up (va_up Mo 0 o2309.2.1) 1 o2309.2.2.1) 2 o2309.2.2.2))) (As := [.int (xs (y4 + (1 : Int32)).toNatClampNeg)]) (rest := []) ⟨hx, hb, hml, hown, hts⟩ hl.1 (kX7_relocate l g ad Mo (xs (y4 + (1 : Int32)).toNatClampNeg) o2309 hc2309) (cwV 1 hts gL_law_X7_relocate rfl rfl rfl (by decide +kernel) ⟨(Nat.le_of_ble_eq_true rfl), (Nat.le_of_ble_eq_true rfl)⟩) rfl hK hP hD hS hA List.perm_append_comm List.perm_append_comm 0 rfl rfl rfl (Nat.le_of_ble_eq_true rfl) dL_law_2309 ⟨by show _ ≤ 601024; omega, by show _ ≤ 7293034; omega⟩ rfl (fun H locs hP hD hS => ?_)
  have hP : va_P g.1 az_cl (((az_ou g ob o2297.2.1 :: az_wF g ax an au aw o2297.2.2.1 o2297.2.2.2.1 o2297.2.2.2.2.1 o2297.2.2.2.2.2) ++ az_cM g ad (va_up (va_up (va_up Mo 0 o2309.2.1) 1 o2309.2.2.1) 2 o2309.2.2.2))) _ := hP
  have hD : va_D A (((az_ou g ob o2297.2.1 :: az_wF g ax an au aw o2297.2.2.1 o2297.2.2.2.1 o2297.2.2.2.2.1 o2297.2.2.2.2.2) ++ az_cM g ad (va_up (va_up (va_up Mo 0 o2309.2.1) 1 o2309.2.2.1) 2 o2309.2.2.2))) := hD
  refine lv_istore (lv' := [(6, .int o2309.1), (5, .int o2297.1), (0, .ref (b)), (1, .ref (ax 0)), (2, .ref (ad 0)), (3, .ref (ob)), (4, .int y4)]) hx hb dL_law_2312 hl (by decide) rfl (fun ls hl => ?_)
  refine lv_aload_n hx hb dL_law_2314 rfl (lv_at hl 4 rfl) ?_
  obtain ⟨o2315, hc2315, h⟩ := az_bnd h
  refine az_callPi (wr := (az_ou g ob o2297.2.1 :: az_wF g ax an au aw o2297.2.2.1 o2297.2.2.2.1 o2297.2.2.2.2.1 o2297.2.2.2.2.2)) (w2 := ((az_ou g ob o2297.2.1 :: az_wF g ax an au aw o2297.2.2.1 o2297.2.2.2.1 o2297.2.2.2.2.1 o2297.2.2.2.2.2) ++ az_cM g ad (va_up (va_up (va_up Mo 0 o2309.2.1) 1 o2309.2.2.1) 2 o2309.2.2.2))) (As := []) (rest := []) ⟨hx, hb, hml, hown, hts⟩ hl.1 (kX7_thrown l g ad (va_up (va_up (va_up Mo 0 o2309.2.1) 1 o2309.2.2.1) 2 o2309.2.2.2)  o2315 hc2315) (cwV 0 hts gL_law_X7_thrown rfl rfl rfl (by decide +kernel) ⟨(Nat.le_of_ble_eq_true rfl), (Nat.le_of_ble_eq_true rfl)⟩) rfl hK hP hD hS hA List.perm_append_comm List.perm_append_comm 0 rfl rfl rfl (Nat.le_of_ble_eq_true rfl) dL_law_2315 ⟨by show _ ≤ 601024; omega, by show _ ≤ 7293034; omega⟩ rfl (fun H locs hP hD hS => ?_)
  have hP : va_P g.1 az_cl (((az_ou g ob o2297.2.1 :: az_wF g ax an au aw o2297.2.2.1 o2297.2.2.2.1 o2297.2.2.2.2.1 o2297.2.2.2.2.2) ++ az_cM g ad (va_up (va_up (va_up Mo 0 o2309.2.1) 1 o2309.2.2.1) 2 o2309.2.2.2))) _ := hP
  have hD : va_D A (((az_ou g ob o2297.2.1 :: az_wF g ax an au aw o2297.2.2.1 o2297.2.2.2.1 o2297.2.2.2.2.1 o2297.2.2.2.2.2) ++ az_cM g ad (va_up (va_up (va_up Mo 0 o2309.2.1) 1 o2309.2.2.1) 2 o2309.2.2.2))) := hD
  refine lv_iload hx hb dL_law_2318 (lv_at hl 1 rfl) ?_
  refine lv_icmp_eq (tgt := 2325) hx hb dL_law_2320 (by decide) (fun c2320 => ?_) (fun c2320 => ?_)
  · replace h := az_pos c2320 h
    refine lv_iload hx hb dL_law_2325 (lv_at hl 1 rfl) ?_
    refine lv_if_ne (tgt := 2342) hx hb dL_law_2327 (by decide) (fun c2327 => ?_) (fun c2327 => ?_)
    · replace h := az_neg c2327 h
      refine lv_goto (tgt := 2624) hx hb dL_law_2342 (by decide) ?_
      refine lv_iinc (v := y4 + (4 : Int32)) (lv' := [(4, .int (y4 + (4 : Int32))), (6, .int o2309.1), (5, .int o2297.1), (0, .ref (b)), (1, .ref (ax 0)), (2, .ref (ad 0)), (3, .ref (ob))]) hx hb dL_law_2624 hl (k := 6) rfl rfl (by decide) rfl (fun ls hl => ?_)
      refine lv_goto (tgt := 23) hx hb dL_law_2627 (by decide) ?_
      have hP : va_P g.1 az_cl (((az_ou g ob o2297.2.1 :: az_wF g ax an au aw o2297.2.2.1 o2297.2.2.2.1 o2297.2.2.2.2.1 o2297.2.2.2.2.2) ++ az_cM g ad (va_up (va_up (va_up Mo 0 o2309.2.1) 1 o2309.2.2.1) 2 o2309.2.2.2))) _ := hP
      have hD : va_D A (((az_ou g ob o2297.2.1 :: az_wF g ax an au aw o2297.2.2.1 o2297.2.2.2.1 o2297.2.2.2.2.1 o2297.2.2.2.2.2) ++ az_cM g ad (va_up (va_up (va_up Mo 0 o2309.2.1) 1 o2309.2.2.1) 2 o2309.2.2.2))) := hD
      exact ih _ _ _ _ _ _ _ _ _ _ _ _ (by omega) (by omega) h hP hD hS (lv_sub hl [3, 4, 5, 6, 0] rfl)
    · replace h := az_pos c2327 h
      refine lv_aload_n hx hb dL_law_2330 rfl (lv_at hl 5 rfl) ?_
      refine lv_iconst (v := (0 : Int32)) hx hb dL_law_2331 (by decide) ?_
      refine va_lald (D := g.1) (f := o2297.2.1) hx hb hK hP 0 2 rfl rfl (az_vin (by decide +kernel)) dL_law_2332 ?_
      refine lv_iload hx hb dL_law_2333 (lv_at hl 0 rfl) ?_
      refine lv_i2l (v := o2309.1.toInt64) hx hb dL_law_2335 rfl ?_
      refine W.lcmp hx hb dL_law_2336 ?_
      refine lv_if_eq (tgt := 2342) hx hb dL_law_2337 (by decide) (fun c2337 => ?_) (fun c2337 => ?_)
      · replace h := az_pos c2337 h
        refine lv_goto (tgt := 2624) hx hb dL_law_2342 (by decide) ?_
        refine lv_iinc (v := y4 + (4 : Int32)) (lv' := [(4, .int (y4 + (4 : Int32))), (6, .int o2309.1), (5, .int o2297.1), (0, .ref (b)), (1, .ref (ax 0)), (2, .ref (ad 0)), (3, .ref (ob))]) hx hb dL_law_2624 hl (k := 6) rfl rfl (by decide) rfl (fun ls hl => ?_)
        refine lv_goto (tgt := 23) hx hb dL_law_2627 (by decide) ?_
        have hP : va_P g.1 az_cl (((az_ou g ob o2297.2.1 :: az_wF g ax an au aw o2297.2.2.1 o2297.2.2.2.1 o2297.2.2.2.2.1 o2297.2.2.2.2.2) ++ az_cM g ad (va_up (va_up (va_up Mo 0 o2309.2.1) 1 o2309.2.2.1) 2 o2309.2.2.2))) _ := hP
        have hD : va_D A (((az_ou g ob o2297.2.1 :: az_wF g ax an au aw o2297.2.2.1 o2297.2.2.2.1 o2297.2.2.2.2.1 o2297.2.2.2.2.2) ++ az_cM g ad (va_up (va_up (va_up Mo 0 o2309.2.1) 1 o2309.2.2.1) 2 o2309.2.2.2))) := hD
        exact ih _ _ _ _ _ _ _ _ _ _ _ _ (by omega) (by omega) h hP hD hS (lv_sub hl [3, 4, 5, 6, 0] rfl)
      · replace h := az_neg c2337 h
        refine lv_iconst (v := (0 : Int32)) hx hb dL_law_2340 (by decide) ?_
        exact absurd (Option.some.inj h) (by decide)
  · replace h := az_neg c2320 h
    refine lv_iconst (v := (0 : Int32)) hx hb dL_law_2323 (by decide) ?_
    exact absurd (Option.some.inj h) (by decide)
set_option maxHeartbeats 8000000 in
set_option maxRecDepth 100000 in
theorem LWC39 {p : Program} {e : Env} {s : State} {m : MethodId} {below : List Frame} {meth : Method} {c : Code} (l : Launch) (hst : l.stackTraces = false) {b L : Nat} {xs : Nat → Int32} (hL : L ≤ 2048) (C0 : lw_At p s m meth c b L xs) (g : az_G) (sa : Nat → Nat) (ax an au : Nat → Nat) (aw : Nat → Nat → Nat) (ob : Nat) (ad : Nat → Nat) (hX : va_X b L xs s s.heap) (hbl : b < s.heap.size) (hbA : ¬ (fun q : Nat => s.heap.size ≤ q) b) (hcx : az_cx sa (fun q : Nat => s.heap.size ≤ q) s s.heap) (hA : ∀ q : Nat, s.heap.size ≤ q → (fun q : Nat => s.heap.size ≤ q) q) (hK : va_K g.1 az_cl (az_tys g) s) (hts : ∀ w ∈ wsL_law, w.before #[Value.ref b] s = true) (n : Nat) (ih : ∀ (cn sn : Nat) (V T : az_St) (S : Nat → az_St) (hs : Nat → Int32) (Mo : az_St) (f : Nat → Int64) (y4 : Int32) (H : Heap) (locs : List Loc) (ls : Array Slot), cn + 6 * n ≤ 5000 → sn + 36 * n ≤ 60000 → F_law_L n xs L V T S hs Mo f y4 = some 1 → va_P g.1 az_cl (((az_ou g ob f :: az_wF g ax an au aw V T S hs) ++ az_cM g ad Mo)) H → va_D (fun q : Nat => s.heap.size ≤ q) (((az_ou g ob f :: az_wF g ax an au aw V T S hs) ++ az_cM g ad Mo)) → va_S (fun q : Nat => s.heap.size ≤ q) s.heap H locs → lv_has ls 7 [(0, .ref (b)), (1, .ref (ax 0)), (2, .ref (ad 0)), (3, .ref (ob)), (4, .int y4)] → W p l e room_1 s m #[Value.ref b] below meth c H locs cn sn (lw_Z below #[Value.ref b] s) (F0 m 23 ls [])) : ∀ (cn sn : Nat) (V T : az_St) (S : Nat → az_St) (hs : Nat → Int32) (Mo : az_St) (f : Nat → Int64) (y4 : Int32) (H : Heap) (locs : List Loc) (ls : Array Slot), cn + 6 * (n + 1) ≤ 5000 → sn + 36 * (n + 1) ≤ 60000 → ¬ ((Int32.ofNat L) - (4 : Int32) < y4) → az_in y4 L = true → F_law_C39 (fun V T S hs Mo f y4 => F_law_L n xs L V T S hs Mo f y4) xs L V T S hs Mo f y4 = some 1 → va_P g.1 az_cl (((az_ou g ob f :: az_wF g ax an au aw V T S hs) ++ az_cM g ad Mo)) H → va_D (fun q : Nat => s.heap.size ≤ q) (((az_ou g ob f :: az_wF g ax an au aw V T S hs) ++ az_cM g ad Mo)) → va_S (fun q : Nat => s.heap.size ≤ q) s.heap H locs → lv_has ls 7 [(0, .ref (b)), (1, .ref (ax 0)), (2, .ref (ad 0)), (3, .ref (ob)), (4, .int y4)] → W p l e room_1 s m #[Value.ref b] below meth c H locs cn sn (lw_Z below #[Value.ref b] s) (F0 m 2345 ls []) := by
  intro cn sn V T S hs Mo f y4 H locs ls hcn hsn c29 i35 h hP hD hS hl
  obtain ⟨hx, hb, hr, hml, hown, -, -, -, hlocks, -⟩ := id C0
  unfold F_law_C39 at h
  obtain ⟨A, eA⟩ : ∃ A : Nat → Prop, A = (fun q : Nat => s.heap.size ≤ q) := ⟨_, rfl⟩
  rw [← eA] at hbA hcx hA hD hS ih
  refine lv_aload_n hx hb dL_law_2345 rfl (lv_at hl 1 rfl) ?_
  refine lv_aload_n hx hb dL_law_2346 rfl (lv_at hl 0 rfl) ?_
  refine lv_iload hx hb dL_law_2347 (lv_at hl 4 rfl) ?_
  refine lv_iconst (v := (1 : Int32)) hx hb dL_law_2349 (by decide) ?_
  refine lv_iadd hx hb dL_law_2350 ?_
  obtain ⟨i2351, h⟩ := az_ite h
  refine va_sld hx hb hX hbl hbA hS (az_vin i2351) dL_law_2351 ?_
  refine lv_aload_n hx hb dL_law_2352 rfl (lv_at hl 3 rfl) ?_
  obtain ⟨o2353, hc2353, h⟩ := az_bnd h
  refine az_callLW (wr := az_cM g ad Mo) (As := [.ref (ax 0), .int (xs (y4 + (1 : Int32)).toNatClampNeg), .ref (ob)]) (rest := []) ⟨hx, hb, hml, hown, hts⟩ hl.1 (kL_victim l hst g sa ax an au aw ob V T S hs f (xs (y4 + (1 : Int32)).toNatClampNeg) o2353 hc2353) (vx_cwSW (hh := [(0, 9, 12, 13), (0, 9, 15, 27)]) 3 hts gL_law_L_victim rfl rfl rfl (by decide +kernel) ⟨(Nat.le_of_ble_eq_true rfl), (Nat.le_of_ble_eq_true rfl)⟩) rfl hK hcx hP hD hS hA (Nat.le_of_ble_eq_true rfl) dL_law_2353 ⟨by show _ ≤ 601024; omega, by show _ ≤ 7293034; omega⟩ rfl (fun H locs hP hD hS => ?_)
  have hP : va_P g.1 az_cl (((az_ou g ob o2353.2.1 :: az_wF g ax an au aw o2353.2.2.1 o2353.2.2.2.1 o2353.2.2.2.2.1 o2353.2.2.2.2.2) ++ az_cM g ad Mo)) _ := hP
  have hD : va_D A (((az_ou g ob o2353.2.1 :: az_wF g ax an au aw o2353.2.2.1 o2353.2.2.2.1 o2353.2.2.2.2.1 o2353.2.2.2.2.2) ++ az_cM g ad Mo)) := hD
  refine lv_istore (lv' := [(5, .int o2353.1), (0, .ref (b)), (1, .ref (ax 0)), (2, .ref (ad 0)), (3, .ref (ob)), (4, .int y4)]) hx hb dL_law_2356 hl (by decide) rfl (fun ls hl => ?_)
  refine lv_aload_n hx hb dL_law_2358 rfl (lv_at hl 3 rfl) ?_
  refine lv_aload_n hx hb dL_law_2359 rfl (lv_at hl 1 rfl) ?_
  refine lv_iload hx hb dL_law_2360 (lv_at hl 5 rfl) ?_
  refine lv_iconst (v := (1 : Int32)) hx hb dL_law_2362 (by decide) ?_
  refine lv_iadd hx hb dL_law_2363 ?_
  refine va_sld hx hb hX hbl hbA hS (az_vin i2351) dL_law_2364 ?_
  obtain ⟨o2365, hc2365, h⟩ := az_bnd h
  refine az_callPi (wr := (az_ou g ob o2353.2.1 :: az_wF g ax an au aw o2353.2.2.1 o2353.2.2.2.1 o2353.2.2.2.2.1 o2353.2.2.2.2.2)) (w2 := ((az_ou g ob o2353.2.1 :: az_wF g ax an au aw o2353.2.2.1 o2353.2.2.2.1 o2353.2.2.2.2.1 o2353.2.2.2.2.2) ++ az_cM g ad (va_up Mo 2 o2365.2))) (As := [.int (xs (y4 + (1 : Int32)).toNatClampNeg)]) (rest := []) ⟨hx, hb, hml, hown, hts⟩ hl.1 (kX7_victim l g ad Mo (xs (y4 + (1 : Int32)).toNatClampNeg) o2365 hc2365) (cwV 1 hts gL_law_X7_victim rfl rfl rfl (by decide +kernel) ⟨(Nat.le_of_ble_eq_true rfl), (Nat.le_of_ble_eq_true rfl)⟩) rfl hK hP hD hS hA List.perm_append_comm List.perm_append_comm 0 rfl rfl rfl (Nat.le_of_ble_eq_true rfl) dL_law_2365 ⟨by show _ ≤ 601024; omega, by show _ ≤ 7293034; omega⟩ rfl (fun H locs hP hD hS => ?_)
  have hP : va_P g.1 az_cl (((az_ou g ob o2353.2.1 :: az_wF g ax an au aw o2353.2.2.1 o2353.2.2.2.1 o2353.2.2.2.2.1 o2353.2.2.2.2.2) ++ az_cM g ad (va_up Mo 2 o2365.2))) _ := hP
  have hD : va_D A (((az_ou g ob o2353.2.1 :: az_wF g ax an au aw o2353.2.2.1 o2353.2.2.2.1 o2353.2.2.2.2.1 o2353.2.2.2.2.2) ++ az_cM g ad (va_up Mo 2 o2365.2))) := hD
  refine lv_istore (lv' := [(6, .int o2365.1), (5, .int o2353.1), (0, .ref (b)), (1, .ref (ax 0)), (2, .ref (ad 0)), (3, .ref (ob)), (4, .int y4)]) hx hb dL_law_2368 hl (by decide) rfl (fun ls hl => ?_)
  refine lv_aload_n hx hb dL_law_2370 rfl (lv_at hl 4 rfl) ?_
  obtain ⟨o2371, hc2371, h⟩ := az_bnd h
  refine az_callPi (wr := (az_ou g ob o2353.2.1 :: az_wF g ax an au aw o2353.2.2.1 o2353.2.2.2.1 o2353.2.2.2.2.1 o2353.2.2.2.2.2)) (w2 := ((az_ou g ob o2353.2.1 :: az_wF g ax an au aw o2353.2.2.1 o2353.2.2.2.1 o2353.2.2.2.2.1 o2353.2.2.2.2.2) ++ az_cM g ad (va_up Mo 2 o2365.2))) (As := []) (rest := []) ⟨hx, hb, hml, hown, hts⟩ hl.1 (kX7_thrown l g ad (va_up Mo 2 o2365.2)  o2371 hc2371) (cwV 0 hts gL_law_X7_thrown rfl rfl rfl (by decide +kernel) ⟨(Nat.le_of_ble_eq_true rfl), (Nat.le_of_ble_eq_true rfl)⟩) rfl hK hP hD hS hA List.perm_append_comm List.perm_append_comm 0 rfl rfl rfl (Nat.le_of_ble_eq_true rfl) dL_law_2371 ⟨by show _ ≤ 601024; omega, by show _ ≤ 7293034; omega⟩ rfl (fun H locs hP hD hS => ?_)
  have hP : va_P g.1 az_cl (((az_ou g ob o2353.2.1 :: az_wF g ax an au aw o2353.2.2.1 o2353.2.2.2.1 o2353.2.2.2.2.1 o2353.2.2.2.2.2) ++ az_cM g ad (va_up Mo 2 o2365.2))) _ := hP
  have hD : va_D A (((az_ou g ob o2353.2.1 :: az_wF g ax an au aw o2353.2.2.1 o2353.2.2.2.1 o2353.2.2.2.2.1 o2353.2.2.2.2.2) ++ az_cM g ad (va_up Mo 2 o2365.2))) := hD
  refine lv_iload hx hb dL_law_2374 (lv_at hl 1 rfl) ?_
  refine lv_icmp_eq (tgt := 2381) hx hb dL_law_2376 (by decide) (fun c2376 => ?_) (fun c2376 => ?_)
  · replace h := az_pos c2376 h
    refine lv_iload hx hb dL_law_2381 (lv_at hl 1 rfl) ?_
    refine lv_if_ne (tgt := 2398) hx hb dL_law_2383 (by decide) (fun c2383 => ?_) (fun c2383 => ?_)
    · replace h := az_neg c2383 h
      refine lv_goto (tgt := 2624) hx hb dL_law_2398 (by decide) ?_
      refine lv_iinc (v := y4 + (4 : Int32)) (lv' := [(4, .int (y4 + (4 : Int32))), (6, .int o2365.1), (5, .int o2353.1), (0, .ref (b)), (1, .ref (ax 0)), (2, .ref (ad 0)), (3, .ref (ob))]) hx hb dL_law_2624 hl (k := 6) rfl rfl (by decide) rfl (fun ls hl => ?_)
      refine lv_goto (tgt := 23) hx hb dL_law_2627 (by decide) ?_
      have hP : va_P g.1 az_cl (((az_ou g ob o2353.2.1 :: az_wF g ax an au aw o2353.2.2.1 o2353.2.2.2.1 o2353.2.2.2.2.1 o2353.2.2.2.2.2) ++ az_cM g ad (va_up Mo 2 o2365.2))) _ := hP
      have hD : va_D A (((az_ou g ob o2353.2.1 :: az_wF g ax an au aw o2353.2.2.1 o2353.2.2.2.1 o2353.2.2.2.2.1 o2353.2.2.2.2.2) ++ az_cM g ad (va_up Mo 2 o2365.2))) := hD
      exact ih _ _ _ _ _ _ _ _ _ _ _ _ (by omega) (by omega) h hP hD hS (lv_sub hl [3, 4, 5, 6, 0] rfl)
    · replace h := az_pos c2383 h
      refine lv_aload_n hx hb dL_law_2386 rfl (lv_at hl 5 rfl) ?_
      refine lv_iconst (v := (0 : Int32)) hx hb dL_law_2387 (by decide) ?_
      refine va_lald (D := g.1) (f := o2353.2.1) hx hb hK hP 0 2 rfl rfl (az_vin (by decide +kernel)) dL_law_2388 ?_
      refine lv_iload hx hb dL_law_2389 (lv_at hl 0 rfl) ?_
      refine lv_i2l (v := o2365.1.toInt64) hx hb dL_law_2391 rfl ?_
      refine W.lcmp hx hb dL_law_2392 ?_
      refine lv_if_eq (tgt := 2398) hx hb dL_law_2393 (by decide) (fun c2393 => ?_) (fun c2393 => ?_)
      · replace h := az_pos c2393 h
        refine lv_goto (tgt := 2624) hx hb dL_law_2398 (by decide) ?_
        refine lv_iinc (v := y4 + (4 : Int32)) (lv' := [(4, .int (y4 + (4 : Int32))), (6, .int o2365.1), (5, .int o2353.1), (0, .ref (b)), (1, .ref (ax 0)), (2, .ref (ad 0)), (3, .ref (ob))]) hx hb dL_law_2624 hl (k := 6) rfl rfl (by decide) rfl (fun ls hl => ?_)
        refine lv_goto (tgt := 23) hx hb dL_law_2627 (by decide) ?_
        have hP : va_P g.1 az_cl (((az_ou g ob o2353.2.1 :: az_wF g ax an au aw o2353.2.2.1 o2353.2.2.2.1 o2353.2.2.2.2.1 o2353.2.2.2.2.2) ++ az_cM g ad (va_up Mo 2 o2365.2))) _ := hP
        have hD : va_D A (((az_ou g ob o2353.2.1 :: az_wF g ax an au aw o2353.2.2.1 o2353.2.2.2.1 o2353.2.2.2.2.1 o2353.2.2.2.2.2) ++ az_cM g ad (va_up Mo 2 o2365.2))) := hD
        exact ih _ _ _ _ _ _ _ _ _ _ _ _ (by omega) (by omega) h hP hD hS (lv_sub hl [3, 4, 5, 6, 0] rfl)
      · replace h := az_neg c2393 h
        refine lv_iconst (v := (0 : Int32)) hx hb dL_law_2396 (by decide) ?_
        exact absurd (Option.some.inj h) (by decide)
  · replace h := az_neg c2376 h
    refine lv_iconst (v := (0 : Int32)) hx hb dL_law_2379 (by decide) ?_
    exact absurd (Option.some.inj h) (by decide)
set_option maxHeartbeats 8000000 in
set_option maxRecDepth 100000 in
theorem LWC40 {p : Program} {e : Env} {s : State} {m : MethodId} {below : List Frame} {meth : Method} {c : Code} (l : Launch) (hst : l.stackTraces = false) {b L : Nat} {xs : Nat → Int32} (hL : L ≤ 2048) (C0 : lw_At p s m meth c b L xs) (g : az_G) (sa : Nat → Nat) (ax an au : Nat → Nat) (aw : Nat → Nat → Nat) (ob : Nat) (ad : Nat → Nat) (hX : va_X b L xs s s.heap) (hbl : b < s.heap.size) (hbA : ¬ (fun q : Nat => s.heap.size ≤ q) b) (hcx : az_cx sa (fun q : Nat => s.heap.size ≤ q) s s.heap) (hA : ∀ q : Nat, s.heap.size ≤ q → (fun q : Nat => s.heap.size ≤ q) q) (hK : va_K g.1 az_cl (az_tys g) s) (hts : ∀ w ∈ wsL_law, w.before #[Value.ref b] s = true) (n : Nat) (ih : ∀ (cn sn : Nat) (V T : az_St) (S : Nat → az_St) (hs : Nat → Int32) (Mo : az_St) (f : Nat → Int64) (y4 : Int32) (H : Heap) (locs : List Loc) (ls : Array Slot), cn + 6 * n ≤ 5000 → sn + 36 * n ≤ 60000 → F_law_L n xs L V T S hs Mo f y4 = some 1 → va_P g.1 az_cl (((az_ou g ob f :: az_wF g ax an au aw V T S hs) ++ az_cM g ad Mo)) H → va_D (fun q : Nat => s.heap.size ≤ q) (((az_ou g ob f :: az_wF g ax an au aw V T S hs) ++ az_cM g ad Mo)) → va_S (fun q : Nat => s.heap.size ≤ q) s.heap H locs → lv_has ls 7 [(0, .ref (b)), (1, .ref (ax 0)), (2, .ref (ad 0)), (3, .ref (ob)), (4, .int y4)] → W p l e room_1 s m #[Value.ref b] below meth c H locs cn sn (lw_Z below #[Value.ref b] s) (F0 m 23 ls [])) : ∀ (cn sn : Nat) (V T : az_St) (S : Nat → az_St) (hs : Nat → Int32) (Mo : az_St) (f : Nat → Int64) (y4 : Int32) (H : Heap) (locs : List Loc) (ls : Array Slot), cn + 6 * (n + 1) ≤ 5000 → sn + 36 * (n + 1) ≤ 60000 → ¬ ((Int32.ofNat L) - (4 : Int32) < y4) → az_in y4 L = true → F_law_C40 (fun V T S hs Mo f y4 => F_law_L n xs L V T S hs Mo f y4) xs L V T S hs Mo f y4 = some 1 → va_P g.1 az_cl (((az_ou g ob f :: az_wF g ax an au aw V T S hs) ++ az_cM g ad Mo)) H → va_D (fun q : Nat => s.heap.size ≤ q) (((az_ou g ob f :: az_wF g ax an au aw V T S hs) ++ az_cM g ad Mo)) → va_S (fun q : Nat => s.heap.size ≤ q) s.heap H locs → lv_has ls 7 [(0, .ref (b)), (1, .ref (ax 0)), (2, .ref (ad 0)), (3, .ref (ob)), (4, .int y4)] → W p l e room_1 s m #[Value.ref b] below meth c H locs cn sn (lw_Z below #[Value.ref b] s) (F0 m 2401 ls []) := by
  intro cn sn V T S hs Mo f y4 H locs ls hcn hsn c29 i35 h hP hD hS hl
  obtain ⟨hx, hb, hr, hml, hown, -, -, -, hlocks, -⟩ := id C0
  unfold F_law_C40 at h
  obtain ⟨A, eA⟩ : ∃ A : Nat → Prop, A = (fun q : Nat => s.heap.size ≤ q) := ⟨_, rfl⟩
  rw [← eA] at hbA hcx hA hD hS ih
  refine lv_aload_n hx hb dL_law_2401 rfl (lv_at hl 1 rfl) ?_
  refine lv_aload_n hx hb dL_law_2402 rfl (lv_at hl 0 rfl) ?_
  refine lv_iload hx hb dL_law_2403 (lv_at hl 4 rfl) ?_
  refine lv_iconst (v := (1 : Int32)) hx hb dL_law_2405 (by decide) ?_
  refine lv_iadd hx hb dL_law_2406 ?_
  obtain ⟨i2407, h⟩ := az_ite h
  refine va_sld hx hb hX hbl hbA hS (az_vin i2407) dL_law_2407 ?_
  refine lv_aload_n hx hb dL_law_2408 rfl (lv_at hl 0 rfl) ?_
  refine lv_iload hx hb dL_law_2409 (lv_at hl 4 rfl) ?_
  refine lv_iconst (v := (2 : Int32)) hx hb dL_law_2411 (by decide) ?_
  refine lv_iadd hx hb dL_law_2412 ?_
  obtain ⟨i2413, h⟩ := az_ite h
  refine va_sld hx hb hX hbl hbA hS (az_vin i2413) dL_law_2413 ?_
  refine lv_aload_n hx hb dL_law_2414 rfl (lv_at hl 3 rfl) ?_
  obtain ⟨o2415, hc2415, h⟩ := az_bnd h
  refine az_callLW (wr := az_cM g ad Mo) (As := [.ref (ax 0), .int (xs (y4 + (1 : Int32)).toNatClampNeg), .int (xs (y4 + (2 : Int32)).toNatClampNeg), .ref (ob)]) (rest := []) ⟨hx, hb, hml, hown, hts⟩ hl.1 (kL_relocationsFor l hst g sa ax an au aw ob V T S hs f (xs (y4 + (1 : Int32)).toNatClampNeg) (xs (y4 + (2 : Int32)).toNatClampNeg) o2415 hc2415) (vx_cwSW (hh := [(0, 10, 13, 13), (0, 10, 17, 27)]) 4 hts gL_law_L_relocationsFor rfl rfl rfl (by decide +kernel) ⟨(Nat.le_of_ble_eq_true rfl), (Nat.le_of_ble_eq_true rfl)⟩) rfl hK hcx hP hD hS hA (Nat.le_of_ble_eq_true rfl) dL_law_2415 ⟨by show _ ≤ 601024; omega, by show _ ≤ 7293034; omega⟩ rfl (fun H locs hP hD hS => ?_)
  have hP : va_P g.1 az_cl (((az_ou g ob o2415.2.1 :: az_wF g ax an au aw o2415.2.2.1 o2415.2.2.2.1 o2415.2.2.2.2.1 o2415.2.2.2.2.2) ++ az_cM g ad Mo)) _ := hP
  have hD : va_D A (((az_ou g ob o2415.2.1 :: az_wF g ax an au aw o2415.2.2.1 o2415.2.2.2.1 o2415.2.2.2.2.1 o2415.2.2.2.2.2) ++ az_cM g ad Mo)) := hD
  refine lv_istore (lv' := [(5, .int o2415.1), (0, .ref (b)), (1, .ref (ax 0)), (2, .ref (ad 0)), (3, .ref (ob)), (4, .int y4)]) hx hb dL_law_2418 hl (by decide) rfl (fun ls hl => ?_)
  refine lv_aload_n hx hb dL_law_2420 rfl (lv_at hl 3 rfl) ?_
  refine lv_aload_n hx hb dL_law_2421 rfl (lv_at hl 1 rfl) ?_
  refine lv_iload hx hb dL_law_2422 (lv_at hl 5 rfl) ?_
  refine lv_iconst (v := (1 : Int32)) hx hb dL_law_2424 (by decide) ?_
  refine lv_iadd hx hb dL_law_2425 ?_
  refine va_sld hx hb hX hbl hbA hS (az_vin i2407) dL_law_2426 ?_
  refine lv_aload_n hx hb dL_law_2427 rfl (lv_at hl 1 rfl) ?_
  refine lv_iload hx hb dL_law_2428 (lv_at hl 5 rfl) ?_
  refine lv_iconst (v := (2 : Int32)) hx hb dL_law_2430 (by decide) ?_
  refine lv_iadd hx hb dL_law_2431 ?_
  refine va_sld hx hb hX hbl hbA hS (az_vin i2413) dL_law_2432 ?_
  obtain ⟨o2433, hc2433, h⟩ := az_bnd h
  refine az_callPi (wr := (az_ou g ob o2415.2.1 :: az_wF g ax an au aw o2415.2.2.1 o2415.2.2.2.1 o2415.2.2.2.2.1 o2415.2.2.2.2.2)) (w2 := ((az_ou g ob o2415.2.1 :: az_wF g ax an au aw o2415.2.2.1 o2415.2.2.2.1 o2415.2.2.2.2.1 o2415.2.2.2.2.2) ++ az_cM g ad (va_up (va_up (va_up Mo 0 o2433.2.1) 2 o2433.2.2.1) 3 o2433.2.2.2))) (As := [.int (xs (y4 + (1 : Int32)).toNatClampNeg), .int (xs (y4 + (2 : Int32)).toNatClampNeg)]) (rest := []) ⟨hx, hb, hml, hown, hts⟩ hl.1 (kX7_relocationsFor l g ad Mo (xs (y4 + (1 : Int32)).toNatClampNeg) (xs (y4 + (2 : Int32)).toNatClampNeg) o2433 hc2433) (cwV 2 hts gL_law_X7_relocationsFor rfl rfl rfl (by decide +kernel) ⟨(Nat.le_of_ble_eq_true rfl), (Nat.le_of_ble_eq_true rfl)⟩) rfl hK hP hD hS hA List.perm_append_comm List.perm_append_comm 0 rfl rfl rfl (Nat.le_of_ble_eq_true rfl) dL_law_2433 ⟨by show _ ≤ 601024; omega, by show _ ≤ 7293034; omega⟩ rfl (fun H locs hP hD hS => ?_)
  have hP : va_P g.1 az_cl (((az_ou g ob o2415.2.1 :: az_wF g ax an au aw o2415.2.2.1 o2415.2.2.2.1 o2415.2.2.2.2.1 o2415.2.2.2.2.2) ++ az_cM g ad (va_up (va_up (va_up Mo 0 o2433.2.1) 2 o2433.2.2.1) 3 o2433.2.2.2))) _ := hP
  have hD : va_D A (((az_ou g ob o2415.2.1 :: az_wF g ax an au aw o2415.2.2.1 o2415.2.2.2.1 o2415.2.2.2.2.1 o2415.2.2.2.2.2) ++ az_cM g ad (va_up (va_up (va_up Mo 0 o2433.2.1) 2 o2433.2.2.1) 3 o2433.2.2.2))) := hD
  refine lv_istore (lv' := [(6, .int o2433.1), (5, .int o2415.1), (0, .ref (b)), (1, .ref (ax 0)), (2, .ref (ad 0)), (3, .ref (ob)), (4, .int y4)]) hx hb dL_law_2436 hl (by decide) rfl (fun ls hl => ?_)
  refine lv_aload_n hx hb dL_law_2438 rfl (lv_at hl 4 rfl) ?_
  obtain ⟨o2439, hc2439, h⟩ := az_bnd h
  refine az_callPi (wr := (az_ou g ob o2415.2.1 :: az_wF g ax an au aw o2415.2.2.1 o2415.2.2.2.1 o2415.2.2.2.2.1 o2415.2.2.2.2.2)) (w2 := ((az_ou g ob o2415.2.1 :: az_wF g ax an au aw o2415.2.2.1 o2415.2.2.2.1 o2415.2.2.2.2.1 o2415.2.2.2.2.2) ++ az_cM g ad (va_up (va_up (va_up Mo 0 o2433.2.1) 2 o2433.2.2.1) 3 o2433.2.2.2))) (As := []) (rest := []) ⟨hx, hb, hml, hown, hts⟩ hl.1 (kX7_thrown l g ad (va_up (va_up (va_up Mo 0 o2433.2.1) 2 o2433.2.2.1) 3 o2433.2.2.2)  o2439 hc2439) (cwV 0 hts gL_law_X7_thrown rfl rfl rfl (by decide +kernel) ⟨(Nat.le_of_ble_eq_true rfl), (Nat.le_of_ble_eq_true rfl)⟩) rfl hK hP hD hS hA List.perm_append_comm List.perm_append_comm 0 rfl rfl rfl (Nat.le_of_ble_eq_true rfl) dL_law_2439 ⟨by show _ ≤ 601024; omega, by show _ ≤ 7293034; omega⟩ rfl (fun H locs hP hD hS => ?_)
  have hP : va_P g.1 az_cl (((az_ou g ob o2415.2.1 :: az_wF g ax an au aw o2415.2.2.1 o2415.2.2.2.1 o2415.2.2.2.2.1 o2415.2.2.2.2.2) ++ az_cM g ad (va_up (va_up (va_up Mo 0 o2433.2.1) 2 o2433.2.2.1) 3 o2433.2.2.2))) _ := hP
  have hD : va_D A (((az_ou g ob o2415.2.1 :: az_wF g ax an au aw o2415.2.2.1 o2415.2.2.2.1 o2415.2.2.2.2.1 o2415.2.2.2.2.2) ++ az_cM g ad (va_up (va_up (va_up Mo 0 o2433.2.1) 2 o2433.2.2.1) 3 o2433.2.2.2))) := hD
  refine lv_iload hx hb dL_law_2442 (lv_at hl 1 rfl) ?_
  refine lv_icmp_eq (tgt := 2449) hx hb dL_law_2444 (by decide) (fun c2444 => ?_) (fun c2444 => ?_)
  · replace h := az_pos c2444 h
    refine lv_iload hx hb dL_law_2449 (lv_at hl 1 rfl) ?_
    refine lv_if_ne (tgt := 2466) hx hb dL_law_2451 (by decide) (fun c2451 => ?_) (fun c2451 => ?_)
    · replace h := az_neg c2451 h
      refine lv_goto (tgt := 2624) hx hb dL_law_2466 (by decide) ?_
      refine lv_iinc (v := y4 + (4 : Int32)) (lv' := [(4, .int (y4 + (4 : Int32))), (6, .int o2433.1), (5, .int o2415.1), (0, .ref (b)), (1, .ref (ax 0)), (2, .ref (ad 0)), (3, .ref (ob))]) hx hb dL_law_2624 hl (k := 6) rfl rfl (by decide) rfl (fun ls hl => ?_)
      refine lv_goto (tgt := 23) hx hb dL_law_2627 (by decide) ?_
      have hP : va_P g.1 az_cl (((az_ou g ob o2415.2.1 :: az_wF g ax an au aw o2415.2.2.1 o2415.2.2.2.1 o2415.2.2.2.2.1 o2415.2.2.2.2.2) ++ az_cM g ad (va_up (va_up (va_up Mo 0 o2433.2.1) 2 o2433.2.2.1) 3 o2433.2.2.2))) _ := hP
      have hD : va_D A (((az_ou g ob o2415.2.1 :: az_wF g ax an au aw o2415.2.2.1 o2415.2.2.2.1 o2415.2.2.2.2.1 o2415.2.2.2.2.2) ++ az_cM g ad (va_up (va_up (va_up Mo 0 o2433.2.1) 2 o2433.2.2.1) 3 o2433.2.2.2))) := hD
      exact ih _ _ _ _ _ _ _ _ _ _ _ _ (by omega) (by omega) h hP hD hS (lv_sub hl [3, 4, 5, 6, 0] rfl)
    · replace h := az_pos c2451 h
      refine lv_aload_n hx hb dL_law_2454 rfl (lv_at hl 5 rfl) ?_
      refine lv_iconst (v := (0 : Int32)) hx hb dL_law_2455 (by decide) ?_
      refine va_lald (D := g.1) (f := o2415.2.1) hx hb hK hP 0 2 rfl rfl (az_vin (by decide +kernel)) dL_law_2456 ?_
      refine lv_iload hx hb dL_law_2457 (lv_at hl 0 rfl) ?_
      refine lv_i2l (v := o2433.1.toInt64) hx hb dL_law_2459 rfl ?_
      refine W.lcmp hx hb dL_law_2460 ?_
      refine lv_if_eq (tgt := 2466) hx hb dL_law_2461 (by decide) (fun c2461 => ?_) (fun c2461 => ?_)
      · replace h := az_pos c2461 h
        refine lv_goto (tgt := 2624) hx hb dL_law_2466 (by decide) ?_
        refine lv_iinc (v := y4 + (4 : Int32)) (lv' := [(4, .int (y4 + (4 : Int32))), (6, .int o2433.1), (5, .int o2415.1), (0, .ref (b)), (1, .ref (ax 0)), (2, .ref (ad 0)), (3, .ref (ob))]) hx hb dL_law_2624 hl (k := 6) rfl rfl (by decide) rfl (fun ls hl => ?_)
        refine lv_goto (tgt := 23) hx hb dL_law_2627 (by decide) ?_
        have hP : va_P g.1 az_cl (((az_ou g ob o2415.2.1 :: az_wF g ax an au aw o2415.2.2.1 o2415.2.2.2.1 o2415.2.2.2.2.1 o2415.2.2.2.2.2) ++ az_cM g ad (va_up (va_up (va_up Mo 0 o2433.2.1) 2 o2433.2.2.1) 3 o2433.2.2.2))) _ := hP
        have hD : va_D A (((az_ou g ob o2415.2.1 :: az_wF g ax an au aw o2415.2.2.1 o2415.2.2.2.1 o2415.2.2.2.2.1 o2415.2.2.2.2.2) ++ az_cM g ad (va_up (va_up (va_up Mo 0 o2433.2.1) 2 o2433.2.2.1) 3 o2433.2.2.2))) := hD
        exact ih _ _ _ _ _ _ _ _ _ _ _ _ (by omega) (by omega) h hP hD hS (lv_sub hl [3, 4, 5, 6, 0] rfl)
      · replace h := az_neg c2461 h
        refine lv_iconst (v := (0 : Int32)) hx hb dL_law_2464 (by decide) ?_
        exact absurd (Option.some.inj h) (by decide)
  · replace h := az_neg c2444 h
    refine lv_iconst (v := (0 : Int32)) hx hb dL_law_2447 (by decide) ?_
    exact absurd (Option.some.inj h) (by decide)
set_option maxHeartbeats 8000000 in
set_option maxRecDepth 100000 in
theorem LWC41 {p : Program} {e : Env} {s : State} {m : MethodId} {below : List Frame} {meth : Method} {c : Code} (l : Launch) (hst : l.stackTraces = false) {b L : Nat} {xs : Nat → Int32} (hL : L ≤ 2048) (C0 : lw_At p s m meth c b L xs) (g : az_G) (sa : Nat → Nat) (ax an au : Nat → Nat) (aw : Nat → Nat → Nat) (ob : Nat) (ad : Nat → Nat) (hX : va_X b L xs s s.heap) (hbl : b < s.heap.size) (hbA : ¬ (fun q : Nat => s.heap.size ≤ q) b) (hcx : az_cx sa (fun q : Nat => s.heap.size ≤ q) s s.heap) (hA : ∀ q : Nat, s.heap.size ≤ q → (fun q : Nat => s.heap.size ≤ q) q) (hK : va_K g.1 az_cl (az_tys g) s) (hts : ∀ w ∈ wsL_law, w.before #[Value.ref b] s = true) (n : Nat) (ih : ∀ (cn sn : Nat) (V T : az_St) (S : Nat → az_St) (hs : Nat → Int32) (Mo : az_St) (f : Nat → Int64) (y4 : Int32) (H : Heap) (locs : List Loc) (ls : Array Slot), cn + 6 * n ≤ 5000 → sn + 36 * n ≤ 60000 → F_law_L n xs L V T S hs Mo f y4 = some 1 → va_P g.1 az_cl (((az_ou g ob f :: az_wF g ax an au aw V T S hs) ++ az_cM g ad Mo)) H → va_D (fun q : Nat => s.heap.size ≤ q) (((az_ou g ob f :: az_wF g ax an au aw V T S hs) ++ az_cM g ad Mo)) → va_S (fun q : Nat => s.heap.size ≤ q) s.heap H locs → lv_has ls 7 [(0, .ref (b)), (1, .ref (ax 0)), (2, .ref (ad 0)), (3, .ref (ob)), (4, .int y4)] → W p l e room_1 s m #[Value.ref b] below meth c H locs cn sn (lw_Z below #[Value.ref b] s) (F0 m 23 ls [])) : ∀ (cn sn : Nat) (V T : az_St) (S : Nat → az_St) (hs : Nat → Int32) (Mo : az_St) (f : Nat → Int64) (y4 : Int32) (H : Heap) (locs : List Loc) (ls : Array Slot), cn + 6 * (n + 1) ≤ 5000 → sn + 36 * (n + 1) ≤ 60000 → ¬ ((Int32.ofNat L) - (4 : Int32) < y4) → az_in y4 L = true → F_law_C41 (fun V T S hs Mo f y4 => F_law_L n xs L V T S hs Mo f y4) xs L V T S hs Mo f y4 = some 1 → va_P g.1 az_cl (((az_ou g ob f :: az_wF g ax an au aw V T S hs) ++ az_cM g ad Mo)) H → va_D (fun q : Nat => s.heap.size ≤ q) (((az_ou g ob f :: az_wF g ax an au aw V T S hs) ++ az_cM g ad Mo)) → va_S (fun q : Nat => s.heap.size ≤ q) s.heap H locs → lv_has ls 7 [(0, .ref (b)), (1, .ref (ax 0)), (2, .ref (ad 0)), (3, .ref (ob)), (4, .int y4)] → W p l e room_1 s m #[Value.ref b] below meth c H locs cn sn (lw_Z below #[Value.ref b] s) (F0 m 2469 ls []) := by
  intro cn sn V T S hs Mo f y4 H locs ls hcn hsn c29 i35 h hP hD hS hl
  obtain ⟨hx, hb, hr, hml, hown, -, -, -, hlocks, -⟩ := id C0
  unfold F_law_C41 at h
  obtain ⟨A, eA⟩ : ∃ A : Nat → Prop, A = (fun q : Nat => s.heap.size ≤ q) := ⟨_, rfl⟩
  rw [← eA] at hbA hcx hA hD hS ih
  refine lv_aload_n hx hb dL_law_2469 rfl (lv_at hl 1 rfl) ?_
  obtain ⟨o2470, hc2470, h⟩ := az_bnd h
  refine az_callPi (w2 := ((az_ou g ob f :: az_wF g ax an au aw V T S hs) ++ az_cM g ad Mo)) (As := []) (rest := []) ⟨hx, hb, hml, hown, hts⟩ hl.1 (kX6_regainable l g ax an au (az_cV g au T ++ az_cH g ax aw S hs) V  o2470 hc2470) (cwV 0 hts gL_law_X6_regainable rfl rfl rfl (by decide +kernel) ⟨(Nat.le_of_ble_eq_true rfl), (Nat.le_of_ble_eq_true rfl)⟩) rfl hK hP hD hS hA (az_pm [az_ou g ob f] (az_wF g ax an au aw V T S hs) (az_cM g ad Mo)) (az_pm [az_ou g ob f] (az_wF g ax an au aw V T S hs) (az_cM g ad Mo)).symm 0 rfl rfl rfl (Nat.le_of_ble_eq_true rfl) dL_law_2470 ⟨by show _ ≤ 601024; omega, by show _ ≤ 7293034; omega⟩ rfl (fun H locs hP hD hS => ?_)
  have hP : va_P g.1 az_cl (((az_ou g ob f :: az_wF g ax an au aw V T S hs) ++ az_cM g ad Mo)) _ := hP
  have hD : va_D A (((az_ou g ob f :: az_wF g ax an au aw V T S hs) ++ az_cM g ad Mo)) := hD
  refine lv_aload_n hx hb dL_law_2473 rfl (lv_at hl 2 rfl) ?_
  obtain ⟨o2474, hc2474, h⟩ := az_bnd h
  refine az_callPi (wr := (az_ou g ob f :: az_wF g ax an au aw V T S hs)) (w2 := ((az_ou g ob f :: az_wF g ax an au aw V T S hs) ++ az_cM g ad (va_up Mo 2 o2474.2))) (As := []) (rest := [.int o2470]) ⟨hx, hb, hml, hown, hts⟩ hl.1 (kX7_regainable l g ad Mo  o2474 hc2474) (cwV 0 hts gL_law_X7_regainable rfl rfl rfl (by decide +kernel) ⟨(Nat.le_of_ble_eq_true rfl), (Nat.le_of_ble_eq_true rfl)⟩) rfl hK hP hD hS hA List.perm_append_comm List.perm_append_comm 0 rfl rfl rfl (Nat.le_of_ble_eq_true rfl) dL_law_2474 ⟨by show _ ≤ 601024; omega, by show _ ≤ 7293034; omega⟩ rfl (fun H locs hP hD hS => ?_)
  have hP : va_P g.1 az_cl (((az_ou g ob f :: az_wF g ax an au aw V T S hs) ++ az_cM g ad (va_up Mo 2 o2474.2))) _ := hP
  have hD : va_D A (((az_ou g ob f :: az_wF g ax an au aw V T S hs) ++ az_cM g ad (va_up Mo 2 o2474.2))) := hD
  refine lv_icmp_eq (tgt := 2624) hx hb dL_law_2477 (by decide) (fun c2477 => ?_) (fun c2477 => ?_)
  · replace h := az_pos c2477 h
    refine lv_iinc (v := y4 + (4 : Int32)) (lv' := [(4, .int (y4 + (4 : Int32))), (0, .ref (b)), (1, .ref (ax 0)), (2, .ref (ad 0)), (3, .ref (ob))]) hx hb dL_law_2624 hl (k := 4) rfl rfl (by decide) rfl (fun ls hl => ?_)
    refine lv_goto (tgt := 23) hx hb dL_law_2627 (by decide) ?_
    have hP : va_P g.1 az_cl (((az_ou g ob f :: az_wF g ax an au aw V T S hs) ++ az_cM g ad (va_up Mo 2 o2474.2))) _ := hP
    have hD : va_D A (((az_ou g ob f :: az_wF g ax an au aw V T S hs) ++ az_cM g ad (va_up Mo 2 o2474.2))) := hD
    exact ih _ _ _ _ _ _ _ _ _ _ _ _ (by omega) (by omega) h hP hD hS (lv_sub hl [1, 2, 3, 4, 0] rfl)
  · replace h := az_neg c2477 h
    refine lv_iconst (v := (0 : Int32)) hx hb dL_law_2480 (by decide) ?_
    exact absurd (Option.some.inj h) (by decide)
set_option maxHeartbeats 8000000 in
set_option maxRecDepth 100000 in
theorem LWC42 {p : Program} {e : Env} {s : State} {m : MethodId} {below : List Frame} {meth : Method} {c : Code} (l : Launch) (hst : l.stackTraces = false) {b L : Nat} {xs : Nat → Int32} (hL : L ≤ 2048) (C0 : lw_At p s m meth c b L xs) (g : az_G) (sa : Nat → Nat) (ax an au : Nat → Nat) (aw : Nat → Nat → Nat) (ob : Nat) (ad : Nat → Nat) (hX : va_X b L xs s s.heap) (hbl : b < s.heap.size) (hbA : ¬ (fun q : Nat => s.heap.size ≤ q) b) (hcx : az_cx sa (fun q : Nat => s.heap.size ≤ q) s s.heap) (hA : ∀ q : Nat, s.heap.size ≤ q → (fun q : Nat => s.heap.size ≤ q) q) (hK : va_K g.1 az_cl (az_tys g) s) (hts : ∀ w ∈ wsL_law, w.before #[Value.ref b] s = true) (n : Nat) (ih : ∀ (cn sn : Nat) (V T : az_St) (S : Nat → az_St) (hs : Nat → Int32) (Mo : az_St) (f : Nat → Int64) (y4 : Int32) (H : Heap) (locs : List Loc) (ls : Array Slot), cn + 6 * n ≤ 5000 → sn + 36 * n ≤ 60000 → F_law_L n xs L V T S hs Mo f y4 = some 1 → va_P g.1 az_cl (((az_ou g ob f :: az_wF g ax an au aw V T S hs) ++ az_cM g ad Mo)) H → va_D (fun q : Nat => s.heap.size ≤ q) (((az_ou g ob f :: az_wF g ax an au aw V T S hs) ++ az_cM g ad Mo)) → va_S (fun q : Nat => s.heap.size ≤ q) s.heap H locs → lv_has ls 7 [(0, .ref (b)), (1, .ref (ax 0)), (2, .ref (ad 0)), (3, .ref (ob)), (4, .int y4)] → W p l e room_1 s m #[Value.ref b] below meth c H locs cn sn (lw_Z below #[Value.ref b] s) (F0 m 23 ls [])) : ∀ (cn sn : Nat) (V T : az_St) (S : Nat → az_St) (hs : Nat → Int32) (Mo : az_St) (f : Nat → Int64) (y4 : Int32) (H : Heap) (locs : List Loc) (ls : Array Slot), cn + 6 * (n + 1) ≤ 5000 → sn + 36 * (n + 1) ≤ 60000 → ¬ ((Int32.ofNat L) - (4 : Int32) < y4) → az_in y4 L = true → F_law_C42 (fun V T S hs Mo f y4 => F_law_L n xs L V T S hs Mo f y4) xs L V T S hs Mo f y4 = some 1 → va_P g.1 az_cl (((az_ou g ob f :: az_wF g ax an au aw V T S hs) ++ az_cM g ad Mo)) H → va_D (fun q : Nat => s.heap.size ≤ q) (((az_ou g ob f :: az_wF g ax an au aw V T S hs) ++ az_cM g ad Mo)) → va_S (fun q : Nat => s.heap.size ≤ q) s.heap H locs → lv_has ls 7 [(0, .ref (b)), (1, .ref (ax 0)), (2, .ref (ad 0)), (3, .ref (ob)), (4, .int y4)] → W p l e room_1 s m #[Value.ref b] below meth c H locs cn sn (lw_Z below #[Value.ref b] s) (F0 m 2482 ls []) := by
  intro cn sn V T S hs Mo f y4 H locs ls hcn hsn c29 i35 h hP hD hS hl
  obtain ⟨hx, hb, hr, hml, hown, -, -, -, hlocks, -⟩ := id C0
  unfold F_law_C42 at h
  obtain ⟨A, eA⟩ : ∃ A : Nat → Prop, A = (fun q : Nat => s.heap.size ≤ q) := ⟨_, rfl⟩
  rw [← eA] at hbA hcx hA hD hS ih
  refine lv_aload_n hx hb dL_law_2482 rfl (lv_at hl 1 rfl) ?_
  obtain ⟨o2483, hc2483, h⟩ := az_bnd h
  refine az_callPi (w2 := ((az_ou g ob f :: az_wF g ax an au aw V T S hs) ++ az_cM g ad Mo)) (As := []) (rest := []) ⟨hx, hb, hml, hown, hts⟩ hl.1 (kX6_regainableNow l g ax an au (az_cV g au T ++ az_cH g ax aw S hs) V  o2483 hc2483) (cwV 0 hts gL_law_X6_regainableNow rfl rfl rfl (by decide +kernel) ⟨(Nat.le_of_ble_eq_true rfl), (Nat.le_of_ble_eq_true rfl)⟩) rfl hK hP hD hS hA (az_pm [az_ou g ob f] (az_wF g ax an au aw V T S hs) (az_cM g ad Mo)) (az_pm [az_ou g ob f] (az_wF g ax an au aw V T S hs) (az_cM g ad Mo)).symm 0 rfl rfl rfl (Nat.le_of_ble_eq_true rfl) dL_law_2483 ⟨by show _ ≤ 601024; omega, by show _ ≤ 7293034; omega⟩ rfl (fun H locs hP hD hS => ?_)
  have hP : va_P g.1 az_cl (((az_ou g ob f :: az_wF g ax an au aw V T S hs) ++ az_cM g ad Mo)) _ := hP
  have hD : va_D A (((az_ou g ob f :: az_wF g ax an au aw V T S hs) ++ az_cM g ad Mo)) := hD
  refine lv_aload_n hx hb dL_law_2486 rfl (lv_at hl 2 rfl) ?_
  obtain ⟨o2487, hc2487, h⟩ := az_bnd h
  refine az_callPi (wr := (az_ou g ob f :: az_wF g ax an au aw V T S hs)) (w2 := ((az_ou g ob f :: az_wF g ax an au aw V T S hs) ++ az_cM g ad (va_up Mo 2 o2487.2))) (As := []) (rest := [.int o2483]) ⟨hx, hb, hml, hown, hts⟩ hl.1 (kX7_regainableNow l g ad Mo  o2487 hc2487) (cwV 0 hts gL_law_X7_regainableNow rfl rfl rfl (by decide +kernel) ⟨(Nat.le_of_ble_eq_true rfl), (Nat.le_of_ble_eq_true rfl)⟩) rfl hK hP hD hS hA List.perm_append_comm List.perm_append_comm 0 rfl rfl rfl (Nat.le_of_ble_eq_true rfl) dL_law_2487 ⟨by show _ ≤ 601024; omega, by show _ ≤ 7293034; omega⟩ rfl (fun H locs hP hD hS => ?_)
  have hP : va_P g.1 az_cl (((az_ou g ob f :: az_wF g ax an au aw V T S hs) ++ az_cM g ad (va_up Mo 2 o2487.2))) _ := hP
  have hD : va_D A (((az_ou g ob f :: az_wF g ax an au aw V T S hs) ++ az_cM g ad (va_up Mo 2 o2487.2))) := hD
  refine lv_icmp_eq (tgt := 2624) hx hb dL_law_2490 (by decide) (fun c2490 => ?_) (fun c2490 => ?_)
  · replace h := az_pos c2490 h
    refine lv_iinc (v := y4 + (4 : Int32)) (lv' := [(4, .int (y4 + (4 : Int32))), (0, .ref (b)), (1, .ref (ax 0)), (2, .ref (ad 0)), (3, .ref (ob))]) hx hb dL_law_2624 hl (k := 4) rfl rfl (by decide) rfl (fun ls hl => ?_)
    refine lv_goto (tgt := 23) hx hb dL_law_2627 (by decide) ?_
    have hP : va_P g.1 az_cl (((az_ou g ob f :: az_wF g ax an au aw V T S hs) ++ az_cM g ad (va_up Mo 2 o2487.2))) _ := hP
    have hD : va_D A (((az_ou g ob f :: az_wF g ax an au aw V T S hs) ++ az_cM g ad (va_up Mo 2 o2487.2))) := hD
    exact ih _ _ _ _ _ _ _ _ _ _ _ _ (by omega) (by omega) h hP hD hS (lv_sub hl [1, 2, 3, 4, 0] rfl)
  · replace h := az_neg c2490 h
    refine lv_iconst (v := (0 : Int32)) hx hb dL_law_2493 (by decide) ?_
    exact absurd (Option.some.inj h) (by decide)
set_option maxHeartbeats 8000000 in
set_option maxRecDepth 100000 in
theorem LWC43 {p : Program} {e : Env} {s : State} {m : MethodId} {below : List Frame} {meth : Method} {c : Code} (l : Launch) (hst : l.stackTraces = false) {b L : Nat} {xs : Nat → Int32} (hL : L ≤ 2048) (C0 : lw_At p s m meth c b L xs) (g : az_G) (sa : Nat → Nat) (ax an au : Nat → Nat) (aw : Nat → Nat → Nat) (ob : Nat) (ad : Nat → Nat) (hX : va_X b L xs s s.heap) (hbl : b < s.heap.size) (hbA : ¬ (fun q : Nat => s.heap.size ≤ q) b) (hcx : az_cx sa (fun q : Nat => s.heap.size ≤ q) s s.heap) (hA : ∀ q : Nat, s.heap.size ≤ q → (fun q : Nat => s.heap.size ≤ q) q) (hK : va_K g.1 az_cl (az_tys g) s) (hts : ∀ w ∈ wsL_law, w.before #[Value.ref b] s = true) (n : Nat) (ih : ∀ (cn sn : Nat) (V T : az_St) (S : Nat → az_St) (hs : Nat → Int32) (Mo : az_St) (f : Nat → Int64) (y4 : Int32) (H : Heap) (locs : List Loc) (ls : Array Slot), cn + 6 * n ≤ 5000 → sn + 36 * n ≤ 60000 → F_law_L n xs L V T S hs Mo f y4 = some 1 → va_P g.1 az_cl (((az_ou g ob f :: az_wF g ax an au aw V T S hs) ++ az_cM g ad Mo)) H → va_D (fun q : Nat => s.heap.size ≤ q) (((az_ou g ob f :: az_wF g ax an au aw V T S hs) ++ az_cM g ad Mo)) → va_S (fun q : Nat => s.heap.size ≤ q) s.heap H locs → lv_has ls 7 [(0, .ref (b)), (1, .ref (ax 0)), (2, .ref (ad 0)), (3, .ref (ob)), (4, .int y4)] → W p l e room_1 s m #[Value.ref b] below meth c H locs cn sn (lw_Z below #[Value.ref b] s) (F0 m 23 ls [])) : ∀ (cn sn : Nat) (V T : az_St) (S : Nat → az_St) (hs : Nat → Int32) (Mo : az_St) (f : Nat → Int64) (y4 : Int32) (H : Heap) (locs : List Loc) (ls : Array Slot), cn + 6 * (n + 1) ≤ 5000 → sn + 36 * (n + 1) ≤ 60000 → ¬ ((Int32.ofNat L) - (4 : Int32) < y4) → az_in y4 L = true → F_law_C43 (fun V T S hs Mo f y4 => F_law_L n xs L V T S hs Mo f y4) xs L V T S hs Mo f y4 = some 1 → va_P g.1 az_cl (((az_ou g ob f :: az_wF g ax an au aw V T S hs) ++ az_cM g ad Mo)) H → va_D (fun q : Nat => s.heap.size ≤ q) (((az_ou g ob f :: az_wF g ax an au aw V T S hs) ++ az_cM g ad Mo)) → va_S (fun q : Nat => s.heap.size ≤ q) s.heap H locs → lv_has ls 7 [(0, .ref (b)), (1, .ref (ax 0)), (2, .ref (ad 0)), (3, .ref (ob)), (4, .int y4)] → W p l e room_1 s m #[Value.ref b] below meth c H locs cn sn (lw_Z below #[Value.ref b] s) (F0 m 2495 ls []) := by
  intro cn sn V T S hs Mo f y4 H locs ls hcn hsn c29 i35 h hP hD hS hl
  obtain ⟨hx, hb, hr, hml, hown, -, -, -, hlocks, -⟩ := id C0
  unfold F_law_C43 at h
  obtain ⟨A, eA⟩ : ∃ A : Nat → Prop, A = (fun q : Nat => s.heap.size ≤ q) := ⟨_, rfl⟩
  rw [← eA] at hbA hcx hA hD hS ih
  refine lv_aload_n hx hb dL_law_2495 rfl (lv_at hl 1 rfl) ?_
  refine lv_aload_n hx hb dL_law_2496 rfl (lv_at hl 0 rfl) ?_
  refine lv_iload hx hb dL_law_2497 (lv_at hl 4 rfl) ?_
  refine lv_iconst (v := (1 : Int32)) hx hb dL_law_2499 (by decide) ?_
  refine lv_iadd hx hb dL_law_2500 ?_
  obtain ⟨i2501, h⟩ := az_ite h
  refine va_sld hx hb hX hbl hbA hS (az_vin i2501) dL_law_2501 ?_
  refine lv_if_eq (tgt := 2509) hx hb dL_law_2502 (by decide) (fun c2502 => ?_) (fun c2502 => ?_)
  · replace h := az_pos c2502 h
    refine lv_iconst (v := (0 : Int32)) hx hb dL_law_2509 (by decide) ?_
    refine lv_aload_n hx hb dL_law_2510 rfl (lv_at hl 3 rfl) ?_
    obtain ⟨o2511, hc2511, h⟩ := az_bnd h
    refine az_callLW (wr := az_cM g ad Mo) (As := [.ref (ax 0), .int (0 : Int32), .ref (ob)]) (rest := []) ⟨hx, hb, hml, hown, hts⟩ hl.1 (kL_amplification l hst g sa ax an au aw ob V T S hs f (0 : Int32) o2511 hc2511) (vx_cwSW (hh := [(0, 9, 12, 27)]) 3 hts gL_law_L_amplification rfl rfl rfl (by decide +kernel) ⟨(Nat.le_of_ble_eq_true rfl), (Nat.le_of_ble_eq_true rfl)⟩) rfl hK hcx hP hD hS hA (Nat.le_of_ble_eq_true rfl) dL_law_2511 ⟨by show _ ≤ 601024; omega, by show _ ≤ 7293034; omega⟩ rfl (fun H locs hP hD hS => ?_)
    have hP : va_P g.1 az_cl (((az_ou g ob o2511.2.1 :: az_wF g ax an au aw o2511.2.2.1 o2511.2.2.2.1 o2511.2.2.2.2.1 o2511.2.2.2.2.2) ++ az_cM g ad Mo)) _ := hP
    have hD : va_D A (((az_ou g ob o2511.2.1 :: az_wF g ax an au aw o2511.2.2.1 o2511.2.2.2.1 o2511.2.2.2.2.1 o2511.2.2.2.2.2) ++ az_cM g ad Mo)) := hD
    refine lv_istore (lv' := [(5, .int o2511.1), (0, .ref (b)), (1, .ref (ax 0)), (2, .ref (ad 0)), (3, .ref (ob)), (4, .int y4)]) hx hb dL_law_2514 hl (by decide) rfl (fun ls hl => ?_)
    refine lv_aload_n hx hb dL_law_2516 rfl (lv_at hl 3 rfl) ?_
    refine lv_aload_n hx hb dL_law_2517 rfl (lv_at hl 1 rfl) ?_
    refine lv_iload hx hb dL_law_2518 (lv_at hl 5 rfl) ?_
    refine lv_iconst (v := (1 : Int32)) hx hb dL_law_2520 (by decide) ?_
    refine lv_iadd hx hb dL_law_2521 ?_
    refine va_sld hx hb hX hbl hbA hS (az_vin i2501) dL_law_2522 ?_
    refine lv_if_eq (tgt := 2530) hx hb dL_law_2523 (by decide) (fun _ => ?_) (fun c9 => absurd c2502 c9)
    refine lv_iconst (v := (0 : Int32)) hx hb dL_law_2530 (by decide) ?_
    obtain ⟨o2531, hc2531, h⟩ := az_bnd h
    refine az_callPi (wr := (az_ou g ob o2511.2.1 :: az_wF g ax an au aw o2511.2.2.1 o2511.2.2.2.1 o2511.2.2.2.2.1 o2511.2.2.2.2.2)) (w2 := ((az_ou g ob o2511.2.1 :: az_wF g ax an au aw o2511.2.2.1 o2511.2.2.2.1 o2511.2.2.2.2.1 o2511.2.2.2.2.2) ++ az_cM g ad (va_up Mo 2 o2531.2))) (As := [.int (0 : Int32)]) (rest := []) ⟨hx, hb, hml, hown, hts⟩ hl.1 (kX7_amplification l g ad Mo (0 : Int32) o2531 hc2531) (cwV 1 hts gL_law_X7_amplification rfl rfl rfl (by decide +kernel) ⟨(Nat.le_of_ble_eq_true rfl), (Nat.le_of_ble_eq_true rfl)⟩) rfl hK hP hD hS hA List.perm_append_comm List.perm_append_comm 0 rfl rfl rfl (Nat.le_of_ble_eq_true rfl) dL_law_2531 ⟨by show _ ≤ 601024; omega, by show _ ≤ 7293034; omega⟩ rfl (fun H locs hP hD hS => ?_)
    have hP : va_P g.1 az_cl (((az_ou g ob o2511.2.1 :: az_wF g ax an au aw o2511.2.2.1 o2511.2.2.2.1 o2511.2.2.2.2.1 o2511.2.2.2.2.2) ++ az_cM g ad (va_up Mo 2 o2531.2))) _ := hP
    have hD : va_D A (((az_ou g ob o2511.2.1 :: az_wF g ax an au aw o2511.2.2.1 o2511.2.2.2.1 o2511.2.2.2.2.1 o2511.2.2.2.2.2) ++ az_cM g ad (va_up Mo 2 o2531.2))) := hD
    refine lv_istore (lv' := [(6, .int o2531.1), (5, .int o2511.1), (0, .ref (b)), (1, .ref (ax 0)), (2, .ref (ad 0)), (3, .ref (ob)), (4, .int y4)]) hx hb dL_law_2534 hl (by decide) rfl (fun ls hl => ?_)
    refine lv_aload_n hx hb dL_law_2536 rfl (lv_at hl 4 rfl) ?_
    obtain ⟨o2537, hc2537, h⟩ := az_bnd h
    refine az_callPi (wr := (az_ou g ob o2511.2.1 :: az_wF g ax an au aw o2511.2.2.1 o2511.2.2.2.1 o2511.2.2.2.2.1 o2511.2.2.2.2.2)) (w2 := ((az_ou g ob o2511.2.1 :: az_wF g ax an au aw o2511.2.2.1 o2511.2.2.2.1 o2511.2.2.2.2.1 o2511.2.2.2.2.2) ++ az_cM g ad (va_up Mo 2 o2531.2))) (As := []) (rest := []) ⟨hx, hb, hml, hown, hts⟩ hl.1 (kX7_thrown l g ad (va_up Mo 2 o2531.2)  o2537 hc2537) (cwV 0 hts gL_law_X7_thrown rfl rfl rfl (by decide +kernel) ⟨(Nat.le_of_ble_eq_true rfl), (Nat.le_of_ble_eq_true rfl)⟩) rfl hK hP hD hS hA List.perm_append_comm List.perm_append_comm 0 rfl rfl rfl (Nat.le_of_ble_eq_true rfl) dL_law_2537 ⟨by show _ ≤ 601024; omega, by show _ ≤ 7293034; omega⟩ rfl (fun H locs hP hD hS => ?_)
    have hP : va_P g.1 az_cl (((az_ou g ob o2511.2.1 :: az_wF g ax an au aw o2511.2.2.1 o2511.2.2.2.1 o2511.2.2.2.2.1 o2511.2.2.2.2.2) ++ az_cM g ad (va_up Mo 2 o2531.2))) _ := hP
    have hD : va_D A (((az_ou g ob o2511.2.1 :: az_wF g ax an au aw o2511.2.2.1 o2511.2.2.2.1 o2511.2.2.2.2.1 o2511.2.2.2.2.2) ++ az_cM g ad (va_up Mo 2 o2531.2))) := hD
    refine lv_iload hx hb dL_law_2540 (lv_at hl 1 rfl) ?_
    refine lv_icmp_eq (tgt := 2547) hx hb dL_law_2542 (by decide) (fun c2542 => ?_) (fun c2542 => ?_)
    · replace h := az_pos c2542 h
      refine lv_iload hx hb dL_law_2547 (lv_at hl 1 rfl) ?_
      refine lv_if_ne (tgt := 2564) hx hb dL_law_2549 (by decide) (fun c2549 => ?_) (fun c2549 => ?_)
      · replace h := az_neg c2549 h
        refine lv_goto (tgt := 2624) hx hb dL_law_2564 (by decide) ?_
        refine lv_iinc (v := y4 + (4 : Int32)) (lv' := [(4, .int (y4 + (4 : Int32))), (6, .int o2531.1), (5, .int o2511.1), (0, .ref (b)), (1, .ref (ax 0)), (2, .ref (ad 0)), (3, .ref (ob))]) hx hb dL_law_2624 hl (k := 6) rfl rfl (by decide) rfl (fun ls hl => ?_)
        refine lv_goto (tgt := 23) hx hb dL_law_2627 (by decide) ?_
        have hP : va_P g.1 az_cl (((az_ou g ob o2511.2.1 :: az_wF g ax an au aw o2511.2.2.1 o2511.2.2.2.1 o2511.2.2.2.2.1 o2511.2.2.2.2.2) ++ az_cM g ad (va_up Mo 2 o2531.2))) _ := hP
        have hD : va_D A (((az_ou g ob o2511.2.1 :: az_wF g ax an au aw o2511.2.2.1 o2511.2.2.2.1 o2511.2.2.2.2.1 o2511.2.2.2.2.2) ++ az_cM g ad (va_up Mo 2 o2531.2))) := hD
        exact ih _ _ _ _ _ _ _ _ _ _ _ _ (by omega) (by omega) h hP hD hS (lv_sub hl [3, 4, 5, 6, 0] rfl)
      · replace h := az_pos c2549 h
        refine lv_aload_n hx hb dL_law_2552 rfl (lv_at hl 5 rfl) ?_
        refine lv_iconst (v := (0 : Int32)) hx hb dL_law_2553 (by decide) ?_
        refine va_lald (D := g.1) (f := o2511.2.1) hx hb hK hP 0 2 rfl rfl (az_vin (by decide +kernel)) dL_law_2554 ?_
        refine lv_iload hx hb dL_law_2555 (lv_at hl 0 rfl) ?_
        refine lv_i2l (v := o2531.1.toInt64) hx hb dL_law_2557 rfl ?_
        refine W.lcmp hx hb dL_law_2558 ?_
        refine lv_if_eq (tgt := 2564) hx hb dL_law_2559 (by decide) (fun c2559 => ?_) (fun c2559 => ?_)
        · replace h := az_pos c2559 h
          refine lv_goto (tgt := 2624) hx hb dL_law_2564 (by decide) ?_
          refine lv_iinc (v := y4 + (4 : Int32)) (lv' := [(4, .int (y4 + (4 : Int32))), (6, .int o2531.1), (5, .int o2511.1), (0, .ref (b)), (1, .ref (ax 0)), (2, .ref (ad 0)), (3, .ref (ob))]) hx hb dL_law_2624 hl (k := 6) rfl rfl (by decide) rfl (fun ls hl => ?_)
          refine lv_goto (tgt := 23) hx hb dL_law_2627 (by decide) ?_
          have hP : va_P g.1 az_cl (((az_ou g ob o2511.2.1 :: az_wF g ax an au aw o2511.2.2.1 o2511.2.2.2.1 o2511.2.2.2.2.1 o2511.2.2.2.2.2) ++ az_cM g ad (va_up Mo 2 o2531.2))) _ := hP
          have hD : va_D A (((az_ou g ob o2511.2.1 :: az_wF g ax an au aw o2511.2.2.1 o2511.2.2.2.1 o2511.2.2.2.2.1 o2511.2.2.2.2.2) ++ az_cM g ad (va_up Mo 2 o2531.2))) := hD
          exact ih _ _ _ _ _ _ _ _ _ _ _ _ (by omega) (by omega) h hP hD hS (lv_sub hl [3, 4, 5, 6, 0] rfl)
        · replace h := az_neg c2559 h
          refine lv_iconst (v := (0 : Int32)) hx hb dL_law_2562 (by decide) ?_
          exact absurd (Option.some.inj h) (by decide)
    · replace h := az_neg c2542 h
      refine lv_iconst (v := (0 : Int32)) hx hb dL_law_2545 (by decide) ?_
      exact absurd (Option.some.inj h) (by decide)
  · replace h := az_neg c2502 h
    refine lv_iconst (v := (1 : Int32)) hx hb dL_law_2505 (by decide) ?_
    refine lv_goto (tgt := 2510) hx hb dL_law_2506 (by decide) ?_
    refine lv_aload_n hx hb dL_law_2510 rfl (lv_at hl 3 rfl) ?_
    obtain ⟨o2511, hc2511, h⟩ := az_bnd h
    refine az_callLW (wr := az_cM g ad Mo) (As := [.ref (ax 0), .int (1 : Int32), .ref (ob)]) (rest := []) ⟨hx, hb, hml, hown, hts⟩ hl.1 (kL_amplification l hst g sa ax an au aw ob V T S hs f (1 : Int32) o2511 hc2511) (vx_cwSW (hh := [(0, 9, 12, 27)]) 3 hts gL_law_L_amplification rfl rfl rfl (by decide +kernel) ⟨(Nat.le_of_ble_eq_true rfl), (Nat.le_of_ble_eq_true rfl)⟩) rfl hK hcx hP hD hS hA (Nat.le_of_ble_eq_true rfl) dL_law_2511 ⟨by show _ ≤ 601024; omega, by show _ ≤ 7293034; omega⟩ rfl (fun H locs hP hD hS => ?_)
    have hP : va_P g.1 az_cl (((az_ou g ob o2511.2.1 :: az_wF g ax an au aw o2511.2.2.1 o2511.2.2.2.1 o2511.2.2.2.2.1 o2511.2.2.2.2.2) ++ az_cM g ad Mo)) _ := hP
    have hD : va_D A (((az_ou g ob o2511.2.1 :: az_wF g ax an au aw o2511.2.2.1 o2511.2.2.2.1 o2511.2.2.2.2.1 o2511.2.2.2.2.2) ++ az_cM g ad Mo)) := hD
    refine lv_istore (lv' := [(5, .int o2511.1), (0, .ref (b)), (1, .ref (ax 0)), (2, .ref (ad 0)), (3, .ref (ob)), (4, .int y4)]) hx hb dL_law_2514 hl (by decide) rfl (fun ls hl => ?_)
    refine lv_aload_n hx hb dL_law_2516 rfl (lv_at hl 3 rfl) ?_
    refine lv_aload_n hx hb dL_law_2517 rfl (lv_at hl 1 rfl) ?_
    refine lv_iload hx hb dL_law_2518 (lv_at hl 5 rfl) ?_
    refine lv_iconst (v := (1 : Int32)) hx hb dL_law_2520 (by decide) ?_
    refine lv_iadd hx hb dL_law_2521 ?_
    refine va_sld hx hb hX hbl hbA hS (az_vin i2501) dL_law_2522 ?_
    refine lv_if_eq (tgt := 2530) hx hb dL_law_2523 (by decide) (fun c9 => absurd c9 c2502) (fun _ => ?_)
    refine lv_iconst (v := (1 : Int32)) hx hb dL_law_2526 (by decide) ?_
    refine lv_goto (tgt := 2531) hx hb dL_law_2527 (by decide) ?_
    obtain ⟨o2531, hc2531, h⟩ := az_bnd h
    refine az_callPi (wr := (az_ou g ob o2511.2.1 :: az_wF g ax an au aw o2511.2.2.1 o2511.2.2.2.1 o2511.2.2.2.2.1 o2511.2.2.2.2.2)) (w2 := ((az_ou g ob o2511.2.1 :: az_wF g ax an au aw o2511.2.2.1 o2511.2.2.2.1 o2511.2.2.2.2.1 o2511.2.2.2.2.2) ++ az_cM g ad (va_up Mo 2 o2531.2))) (As := [.int (1 : Int32)]) (rest := []) ⟨hx, hb, hml, hown, hts⟩ hl.1 (kX7_amplification l g ad Mo (1 : Int32) o2531 hc2531) (cwV 1 hts gL_law_X7_amplification rfl rfl rfl (by decide +kernel) ⟨(Nat.le_of_ble_eq_true rfl), (Nat.le_of_ble_eq_true rfl)⟩) rfl hK hP hD hS hA List.perm_append_comm List.perm_append_comm 0 rfl rfl rfl (Nat.le_of_ble_eq_true rfl) dL_law_2531 ⟨by show _ ≤ 601024; omega, by show _ ≤ 7293034; omega⟩ rfl (fun H locs hP hD hS => ?_)
    have hP : va_P g.1 az_cl (((az_ou g ob o2511.2.1 :: az_wF g ax an au aw o2511.2.2.1 o2511.2.2.2.1 o2511.2.2.2.2.1 o2511.2.2.2.2.2) ++ az_cM g ad (va_up Mo 2 o2531.2))) _ := hP
    have hD : va_D A (((az_ou g ob o2511.2.1 :: az_wF g ax an au aw o2511.2.2.1 o2511.2.2.2.1 o2511.2.2.2.2.1 o2511.2.2.2.2.2) ++ az_cM g ad (va_up Mo 2 o2531.2))) := hD
    refine lv_istore (lv' := [(6, .int o2531.1), (5, .int o2511.1), (0, .ref (b)), (1, .ref (ax 0)), (2, .ref (ad 0)), (3, .ref (ob)), (4, .int y4)]) hx hb dL_law_2534 hl (by decide) rfl (fun ls hl => ?_)
    refine lv_aload_n hx hb dL_law_2536 rfl (lv_at hl 4 rfl) ?_
    obtain ⟨o2537, hc2537, h⟩ := az_bnd h
    refine az_callPi (wr := (az_ou g ob o2511.2.1 :: az_wF g ax an au aw o2511.2.2.1 o2511.2.2.2.1 o2511.2.2.2.2.1 o2511.2.2.2.2.2)) (w2 := ((az_ou g ob o2511.2.1 :: az_wF g ax an au aw o2511.2.2.1 o2511.2.2.2.1 o2511.2.2.2.2.1 o2511.2.2.2.2.2) ++ az_cM g ad (va_up Mo 2 o2531.2))) (As := []) (rest := []) ⟨hx, hb, hml, hown, hts⟩ hl.1 (kX7_thrown l g ad (va_up Mo 2 o2531.2)  o2537 hc2537) (cwV 0 hts gL_law_X7_thrown rfl rfl rfl (by decide +kernel) ⟨(Nat.le_of_ble_eq_true rfl), (Nat.le_of_ble_eq_true rfl)⟩) rfl hK hP hD hS hA List.perm_append_comm List.perm_append_comm 0 rfl rfl rfl (Nat.le_of_ble_eq_true rfl) dL_law_2537 ⟨by show _ ≤ 601024; omega, by show _ ≤ 7293034; omega⟩ rfl (fun H locs hP hD hS => ?_)
    have hP : va_P g.1 az_cl (((az_ou g ob o2511.2.1 :: az_wF g ax an au aw o2511.2.2.1 o2511.2.2.2.1 o2511.2.2.2.2.1 o2511.2.2.2.2.2) ++ az_cM g ad (va_up Mo 2 o2531.2))) _ := hP
    have hD : va_D A (((az_ou g ob o2511.2.1 :: az_wF g ax an au aw o2511.2.2.1 o2511.2.2.2.1 o2511.2.2.2.2.1 o2511.2.2.2.2.2) ++ az_cM g ad (va_up Mo 2 o2531.2))) := hD
    refine lv_iload hx hb dL_law_2540 (lv_at hl 1 rfl) ?_
    refine lv_icmp_eq (tgt := 2547) hx hb dL_law_2542 (by decide) (fun c2542 => ?_) (fun c2542 => ?_)
    · replace h := az_pos c2542 h
      refine lv_iload hx hb dL_law_2547 (lv_at hl 1 rfl) ?_
      refine lv_if_ne (tgt := 2564) hx hb dL_law_2549 (by decide) (fun c2549 => ?_) (fun c2549 => ?_)
      · replace h := az_neg c2549 h
        refine lv_goto (tgt := 2624) hx hb dL_law_2564 (by decide) ?_
        refine lv_iinc (v := y4 + (4 : Int32)) (lv' := [(4, .int (y4 + (4 : Int32))), (6, .int o2531.1), (5, .int o2511.1), (0, .ref (b)), (1, .ref (ax 0)), (2, .ref (ad 0)), (3, .ref (ob))]) hx hb dL_law_2624 hl (k := 6) rfl rfl (by decide) rfl (fun ls hl => ?_)
        refine lv_goto (tgt := 23) hx hb dL_law_2627 (by decide) ?_
        have hP : va_P g.1 az_cl (((az_ou g ob o2511.2.1 :: az_wF g ax an au aw o2511.2.2.1 o2511.2.2.2.1 o2511.2.2.2.2.1 o2511.2.2.2.2.2) ++ az_cM g ad (va_up Mo 2 o2531.2))) _ := hP
        have hD : va_D A (((az_ou g ob o2511.2.1 :: az_wF g ax an au aw o2511.2.2.1 o2511.2.2.2.1 o2511.2.2.2.2.1 o2511.2.2.2.2.2) ++ az_cM g ad (va_up Mo 2 o2531.2))) := hD
        exact ih _ _ _ _ _ _ _ _ _ _ _ _ (by omega) (by omega) h hP hD hS (lv_sub hl [3, 4, 5, 6, 0] rfl)
      · replace h := az_pos c2549 h
        refine lv_aload_n hx hb dL_law_2552 rfl (lv_at hl 5 rfl) ?_
        refine lv_iconst (v := (0 : Int32)) hx hb dL_law_2553 (by decide) ?_
        refine va_lald (D := g.1) (f := o2511.2.1) hx hb hK hP 0 2 rfl rfl (az_vin (by decide +kernel)) dL_law_2554 ?_
        refine lv_iload hx hb dL_law_2555 (lv_at hl 0 rfl) ?_
        refine lv_i2l (v := o2531.1.toInt64) hx hb dL_law_2557 rfl ?_
        refine W.lcmp hx hb dL_law_2558 ?_
        refine lv_if_eq (tgt := 2564) hx hb dL_law_2559 (by decide) (fun c2559 => ?_) (fun c2559 => ?_)
        · replace h := az_pos c2559 h
          refine lv_goto (tgt := 2624) hx hb dL_law_2564 (by decide) ?_
          refine lv_iinc (v := y4 + (4 : Int32)) (lv' := [(4, .int (y4 + (4 : Int32))), (6, .int o2531.1), (5, .int o2511.1), (0, .ref (b)), (1, .ref (ax 0)), (2, .ref (ad 0)), (3, .ref (ob))]) hx hb dL_law_2624 hl (k := 6) rfl rfl (by decide) rfl (fun ls hl => ?_)
          refine lv_goto (tgt := 23) hx hb dL_law_2627 (by decide) ?_
          have hP : va_P g.1 az_cl (((az_ou g ob o2511.2.1 :: az_wF g ax an au aw o2511.2.2.1 o2511.2.2.2.1 o2511.2.2.2.2.1 o2511.2.2.2.2.2) ++ az_cM g ad (va_up Mo 2 o2531.2))) _ := hP
          have hD : va_D A (((az_ou g ob o2511.2.1 :: az_wF g ax an au aw o2511.2.2.1 o2511.2.2.2.1 o2511.2.2.2.2.1 o2511.2.2.2.2.2) ++ az_cM g ad (va_up Mo 2 o2531.2))) := hD
          exact ih _ _ _ _ _ _ _ _ _ _ _ _ (by omega) (by omega) h hP hD hS (lv_sub hl [3, 4, 5, 6, 0] rfl)
        · replace h := az_neg c2559 h
          refine lv_iconst (v := (0 : Int32)) hx hb dL_law_2562 (by decide) ?_
          exact absurd (Option.some.inj h) (by decide)
    · replace h := az_neg c2542 h
      refine lv_iconst (v := (0 : Int32)) hx hb dL_law_2545 (by decide) ?_
      exact absurd (Option.some.inj h) (by decide)
set_option maxHeartbeats 8000000 in
set_option maxRecDepth 100000 in
theorem LWC44 {p : Program} {e : Env} {s : State} {m : MethodId} {below : List Frame} {meth : Method} {c : Code} (l : Launch) (hst : l.stackTraces = false) {b L : Nat} {xs : Nat → Int32} (hL : L ≤ 2048) (C0 : lw_At p s m meth c b L xs) (g : az_G) (sa : Nat → Nat) (ax an au : Nat → Nat) (aw : Nat → Nat → Nat) (ob : Nat) (ad : Nat → Nat) (hX : va_X b L xs s s.heap) (hbl : b < s.heap.size) (hbA : ¬ (fun q : Nat => s.heap.size ≤ q) b) (hcx : az_cx sa (fun q : Nat => s.heap.size ≤ q) s s.heap) (hA : ∀ q : Nat, s.heap.size ≤ q → (fun q : Nat => s.heap.size ≤ q) q) (hK : va_K g.1 az_cl (az_tys g) s) (hts : ∀ w ∈ wsL_law, w.before #[Value.ref b] s = true) (n : Nat) (ih : ∀ (cn sn : Nat) (V T : az_St) (S : Nat → az_St) (hs : Nat → Int32) (Mo : az_St) (f : Nat → Int64) (y4 : Int32) (H : Heap) (locs : List Loc) (ls : Array Slot), cn + 6 * n ≤ 5000 → sn + 36 * n ≤ 60000 → F_law_L n xs L V T S hs Mo f y4 = some 1 → va_P g.1 az_cl (((az_ou g ob f :: az_wF g ax an au aw V T S hs) ++ az_cM g ad Mo)) H → va_D (fun q : Nat => s.heap.size ≤ q) (((az_ou g ob f :: az_wF g ax an au aw V T S hs) ++ az_cM g ad Mo)) → va_S (fun q : Nat => s.heap.size ≤ q) s.heap H locs → lv_has ls 7 [(0, .ref (b)), (1, .ref (ax 0)), (2, .ref (ad 0)), (3, .ref (ob)), (4, .int y4)] → W p l e room_1 s m #[Value.ref b] below meth c H locs cn sn (lw_Z below #[Value.ref b] s) (F0 m 23 ls [])) : ∀ (cn sn : Nat) (V T : az_St) (S : Nat → az_St) (hs : Nat → Int32) (Mo : az_St) (f : Nat → Int64) (y4 : Int32) (H : Heap) (locs : List Loc) (ls : Array Slot), cn + 6 * (n + 1) ≤ 5000 → sn + 36 * (n + 1) ≤ 60000 → ¬ ((Int32.ofNat L) - (4 : Int32) < y4) → az_in y4 L = true → F_law_C44 (fun V T S hs Mo f y4 => F_law_L n xs L V T S hs Mo f y4) xs L V T S hs Mo f y4 = some 1 → va_P g.1 az_cl (((az_ou g ob f :: az_wF g ax an au aw V T S hs) ++ az_cM g ad Mo)) H → va_D (fun q : Nat => s.heap.size ≤ q) (((az_ou g ob f :: az_wF g ax an au aw V T S hs) ++ az_cM g ad Mo)) → va_S (fun q : Nat => s.heap.size ≤ q) s.heap H locs → lv_has ls 7 [(0, .ref (b)), (1, .ref (ax 0)), (2, .ref (ad 0)), (3, .ref (ob)), (4, .int y4)] → W p l e room_1 s m #[Value.ref b] below meth c H locs cn sn (lw_Z below #[Value.ref b] s) (F0 m 2567 ls []) := by
  intro cn sn V T S hs Mo f y4 H locs ls hcn hsn c29 i35 h hP hD hS hl
  obtain ⟨hx, hb, hr, hml, hown, -, -, -, hlocks, -⟩ := id C0
  unfold F_law_C44 at h
  obtain ⟨A, eA⟩ : ∃ A : Nat → Prop, A = (fun q : Nat => s.heap.size ≤ q) := ⟨_, rfl⟩
  rw [← eA] at hbA hcx hA hD hS ih
  refine lv_aload_n hx hb dL_law_2567 rfl (lv_at hl 1 rfl) ?_
  obtain ⟨o2568, hc2568, h⟩ := az_bnd h
  refine az_callPi (w2 := ((az_ou g ob f :: az_wF g ax an au aw V T S hs) ++ az_cM g ad Mo)) (As := []) (rest := []) ⟨hx, hb, hml, hown, hts⟩ hl.1 (kX6_wearGap l g ax an au (az_cV g au T ++ az_cH g ax aw S hs) V  o2568 hc2568) (cwV 0 hts gL_law_X6_wearGap rfl rfl rfl (by decide +kernel) ⟨(Nat.le_of_ble_eq_true rfl), (Nat.le_of_ble_eq_true rfl)⟩) rfl hK hP hD hS hA (az_pm [az_ou g ob f] (az_wF g ax an au aw V T S hs) (az_cM g ad Mo)) (az_pm [az_ou g ob f] (az_wF g ax an au aw V T S hs) (az_cM g ad Mo)).symm 0 rfl rfl rfl (Nat.le_of_ble_eq_true rfl) dL_law_2568 ⟨by show _ ≤ 601024; omega, by show _ ≤ 7293034; omega⟩ rfl (fun H locs hP hD hS => ?_)
  have hP : va_P g.1 az_cl (((az_ou g ob f :: az_wF g ax an au aw V T S hs) ++ az_cM g ad Mo)) _ := hP
  have hD : va_D A (((az_ou g ob f :: az_wF g ax an au aw V T S hs) ++ az_cM g ad Mo)) := hD
  refine lv_aload_n hx hb dL_law_2571 rfl (lv_at hl 2 rfl) ?_
  obtain ⟨o2572, hc2572, h⟩ := az_bnd h
  refine az_callPi (wr := (az_ou g ob f :: az_wF g ax an au aw V T S hs)) (w2 := ((az_ou g ob f :: az_wF g ax an au aw V T S hs) ++ az_cM g ad (va_up Mo 2 o2572.2))) (As := []) (rest := [.int o2568]) ⟨hx, hb, hml, hown, hts⟩ hl.1 (kX7_wearGap l g ad Mo  o2572 hc2572) (cwV 0 hts gL_law_X7_wearGap rfl rfl rfl (by decide +kernel) ⟨(Nat.le_of_ble_eq_true rfl), (Nat.le_of_ble_eq_true rfl)⟩) rfl hK hP hD hS hA List.perm_append_comm List.perm_append_comm 0 rfl rfl rfl (Nat.le_of_ble_eq_true rfl) dL_law_2572 ⟨by show _ ≤ 601024; omega, by show _ ≤ 7293034; omega⟩ rfl (fun H locs hP hD hS => ?_)
  have hP : va_P g.1 az_cl (((az_ou g ob f :: az_wF g ax an au aw V T S hs) ++ az_cM g ad (va_up Mo 2 o2572.2))) _ := hP
  have hD : va_D A (((az_ou g ob f :: az_wF g ax an au aw V T S hs) ++ az_cM g ad (va_up Mo 2 o2572.2))) := hD
  refine lv_icmp_eq (tgt := 2624) hx hb dL_law_2575 (by decide) (fun c2575 => ?_) (fun c2575 => ?_)
  · replace h := az_pos c2575 h
    refine lv_iinc (v := y4 + (4 : Int32)) (lv' := [(4, .int (y4 + (4 : Int32))), (0, .ref (b)), (1, .ref (ax 0)), (2, .ref (ad 0)), (3, .ref (ob))]) hx hb dL_law_2624 hl (k := 4) rfl rfl (by decide) rfl (fun ls hl => ?_)
    refine lv_goto (tgt := 23) hx hb dL_law_2627 (by decide) ?_
    have hP : va_P g.1 az_cl (((az_ou g ob f :: az_wF g ax an au aw V T S hs) ++ az_cM g ad (va_up Mo 2 o2572.2))) _ := hP
    have hD : va_D A (((az_ou g ob f :: az_wF g ax an au aw V T S hs) ++ az_cM g ad (va_up Mo 2 o2572.2))) := hD
    exact ih _ _ _ _ _ _ _ _ _ _ _ _ (by omega) (by omega) h hP hD hS (lv_sub hl [1, 2, 3, 4, 0] rfl)
  · replace h := az_neg c2575 h
    refine lv_iconst (v := (0 : Int32)) hx hb dL_law_2578 (by decide) ?_
    exact absurd (Option.some.inj h) (by decide)
set_option maxHeartbeats 8000000 in
set_option maxRecDepth 100000 in
theorem LWC45 {p : Program} {e : Env} {s : State} {m : MethodId} {below : List Frame} {meth : Method} {c : Code} (l : Launch) (hst : l.stackTraces = false) {b L : Nat} {xs : Nat → Int32} (hL : L ≤ 2048) (C0 : lw_At p s m meth c b L xs) (g : az_G) (sa : Nat → Nat) (ax an au : Nat → Nat) (aw : Nat → Nat → Nat) (ob : Nat) (ad : Nat → Nat) (hX : va_X b L xs s s.heap) (hbl : b < s.heap.size) (hbA : ¬ (fun q : Nat => s.heap.size ≤ q) b) (hcx : az_cx sa (fun q : Nat => s.heap.size ≤ q) s s.heap) (hA : ∀ q : Nat, s.heap.size ≤ q → (fun q : Nat => s.heap.size ≤ q) q) (hK : va_K g.1 az_cl (az_tys g) s) (hts : ∀ w ∈ wsL_law, w.before #[Value.ref b] s = true) (n : Nat) (ih : ∀ (cn sn : Nat) (V T : az_St) (S : Nat → az_St) (hs : Nat → Int32) (Mo : az_St) (f : Nat → Int64) (y4 : Int32) (H : Heap) (locs : List Loc) (ls : Array Slot), cn + 6 * n ≤ 5000 → sn + 36 * n ≤ 60000 → F_law_L n xs L V T S hs Mo f y4 = some 1 → va_P g.1 az_cl (((az_ou g ob f :: az_wF g ax an au aw V T S hs) ++ az_cM g ad Mo)) H → va_D (fun q : Nat => s.heap.size ≤ q) (((az_ou g ob f :: az_wF g ax an au aw V T S hs) ++ az_cM g ad Mo)) → va_S (fun q : Nat => s.heap.size ≤ q) s.heap H locs → lv_has ls 7 [(0, .ref (b)), (1, .ref (ax 0)), (2, .ref (ad 0)), (3, .ref (ob)), (4, .int y4)] → W p l e room_1 s m #[Value.ref b] below meth c H locs cn sn (lw_Z below #[Value.ref b] s) (F0 m 23 ls [])) : ∀ (cn sn : Nat) (V T : az_St) (S : Nat → az_St) (hs : Nat → Int32) (Mo : az_St) (f : Nat → Int64) (y4 : Int32) (H : Heap) (locs : List Loc) (ls : Array Slot), cn + 6 * (n + 1) ≤ 5000 → sn + 36 * (n + 1) ≤ 60000 → ¬ ((Int32.ofNat L) - (4 : Int32) < y4) → az_in y4 L = true → F_law_C45 (fun V T S hs Mo f y4 => F_law_L n xs L V T S hs Mo f y4) xs L V T S hs Mo f y4 = some 1 → va_P g.1 az_cl (((az_ou g ob f :: az_wF g ax an au aw V T S hs) ++ az_cM g ad Mo)) H → va_D (fun q : Nat => s.heap.size ≤ q) (((az_ou g ob f :: az_wF g ax an au aw V T S hs) ++ az_cM g ad Mo)) → va_S (fun q : Nat => s.heap.size ≤ q) s.heap H locs → lv_has ls 7 [(0, .ref (b)), (1, .ref (ax 0)), (2, .ref (ad 0)), (3, .ref (ob)), (4, .int y4)] → W p l e room_1 s m #[Value.ref b] below meth c H locs cn sn (lw_Z below #[Value.ref b] s) (F0 m 2580 ls []) := by
  intro cn sn V T S hs Mo f y4 H locs ls hcn hsn c29 i35 h hP hD hS hl
  obtain ⟨hx, hb, hr, hml, hown, -, -, -, hlocks, -⟩ := id C0
  unfold F_law_C45 at h
  obtain ⟨A, eA⟩ : ∃ A : Nat → Prop, A = (fun q : Nat => s.heap.size ≤ q) := ⟨_, rfl⟩
  rw [← eA] at hbA hcx hA hD hS ih
  refine lv_aload_n hx hb dL_law_2580 rfl (lv_at hl 1 rfl) ?_
  refine lv_aload_n hx hb dL_law_2581 rfl (lv_at hl 3 rfl) ?_
  obtain ⟨o2582, hc2582, h⟩ := az_bnd h
  refine az_callLW (wr := az_cM g ad Mo) (As := [.ref (ax 0), .ref (ob)]) (rest := []) ⟨hx, hb, hml, hown, hts⟩ hl.1 (kL_undo l hst g sa ax an au aw ob V T S hs f  o2582 hc2582) (vx_cwSW (hh := [(0, 8, 11, 21)]) 2 hts gL_law_L_undo rfl rfl rfl (by decide +kernel) ⟨(Nat.le_of_ble_eq_true rfl), (Nat.le_of_ble_eq_true rfl)⟩) rfl hK hcx hP hD hS hA (Nat.le_of_ble_eq_true rfl) dL_law_2582 ⟨by show _ ≤ 601024; omega, by show _ ≤ 7293034; omega⟩ rfl (fun H locs hP hD hS => ?_)
  have hP : va_P g.1 az_cl (((az_ou g ob o2582.2.1 :: az_wF g ax an au aw o2582.2.2.1 o2582.2.2.2.1 o2582.2.2.2.2.1 o2582.2.2.2.2.2) ++ az_cM g ad Mo)) _ := hP
  have hD : va_D A (((az_ou g ob o2582.2.1 :: az_wF g ax an au aw o2582.2.2.1 o2582.2.2.2.1 o2582.2.2.2.2.1 o2582.2.2.2.2.2) ++ az_cM g ad Mo)) := hD
  refine lv_istore (lv' := [(5, .int o2582.1), (0, .ref (b)), (1, .ref (ax 0)), (2, .ref (ad 0)), (3, .ref (ob)), (4, .int y4)]) hx hb dL_law_2585 hl (by decide) rfl (fun ls hl => ?_)
  refine lv_aload_n hx hb dL_law_2587 rfl (lv_at hl 3 rfl) ?_
  obtain ⟨o2588, hc2588, h⟩ := az_bnd h
  refine az_callPi (wr := (az_ou g ob o2582.2.1 :: az_wF g ax an au aw o2582.2.2.1 o2582.2.2.2.1 o2582.2.2.2.2.1 o2582.2.2.2.2.2)) (w2 := ((az_ou g ob o2582.2.1 :: az_wF g ax an au aw o2582.2.2.1 o2582.2.2.2.1 o2582.2.2.2.2.1 o2582.2.2.2.2.2) ++ az_cM g ad (va_up (va_up Mo 0 o2588.2.1) 2 o2588.2.2))) (As := []) (rest := []) ⟨hx, hb, hml, hown, hts⟩ hl.1 (kX7_undo l g ad Mo  o2588 hc2588) (cwV 0 hts gL_law_X7_undo rfl rfl rfl (by decide +kernel) ⟨(Nat.le_of_ble_eq_true rfl), (Nat.le_of_ble_eq_true rfl)⟩) rfl hK hP hD hS hA List.perm_append_comm List.perm_append_comm 0 rfl rfl rfl (Nat.le_of_ble_eq_true rfl) dL_law_2588 ⟨by show _ ≤ 601024; omega, by show _ ≤ 7293034; omega⟩ rfl (fun H locs hP hD hS => ?_)
  have hP : va_P g.1 az_cl (((az_ou g ob o2582.2.1 :: az_wF g ax an au aw o2582.2.2.1 o2582.2.2.2.1 o2582.2.2.2.2.1 o2582.2.2.2.2.2) ++ az_cM g ad (va_up (va_up Mo 0 o2588.2.1) 2 o2588.2.2))) _ := hP
  have hD : va_D A (((az_ou g ob o2582.2.1 :: az_wF g ax an au aw o2582.2.2.1 o2582.2.2.2.1 o2582.2.2.2.2.1 o2582.2.2.2.2.2) ++ az_cM g ad (va_up (va_up Mo 0 o2588.2.1) 2 o2588.2.2))) := hD
  refine lv_istore (lv' := [(6, .int o2588.1), (5, .int o2582.1), (0, .ref (b)), (1, .ref (ax 0)), (2, .ref (ad 0)), (3, .ref (ob)), (4, .int y4)]) hx hb dL_law_2591 hl (by decide) rfl (fun ls hl => ?_)
  refine lv_aload_n hx hb dL_law_2593 rfl (lv_at hl 4 rfl) ?_
  obtain ⟨o2594, hc2594, h⟩ := az_bnd h
  refine az_callPi (wr := (az_ou g ob o2582.2.1 :: az_wF g ax an au aw o2582.2.2.1 o2582.2.2.2.1 o2582.2.2.2.2.1 o2582.2.2.2.2.2)) (w2 := ((az_ou g ob o2582.2.1 :: az_wF g ax an au aw o2582.2.2.1 o2582.2.2.2.1 o2582.2.2.2.2.1 o2582.2.2.2.2.2) ++ az_cM g ad (va_up (va_up Mo 0 o2588.2.1) 2 o2588.2.2))) (As := []) (rest := []) ⟨hx, hb, hml, hown, hts⟩ hl.1 (kX7_thrown l g ad (va_up (va_up Mo 0 o2588.2.1) 2 o2588.2.2)  o2594 hc2594) (cwV 0 hts gL_law_X7_thrown rfl rfl rfl (by decide +kernel) ⟨(Nat.le_of_ble_eq_true rfl), (Nat.le_of_ble_eq_true rfl)⟩) rfl hK hP hD hS hA List.perm_append_comm List.perm_append_comm 0 rfl rfl rfl (Nat.le_of_ble_eq_true rfl) dL_law_2594 ⟨by show _ ≤ 601024; omega, by show _ ≤ 7293034; omega⟩ rfl (fun H locs hP hD hS => ?_)
  have hP : va_P g.1 az_cl (((az_ou g ob o2582.2.1 :: az_wF g ax an au aw o2582.2.2.1 o2582.2.2.2.1 o2582.2.2.2.2.1 o2582.2.2.2.2.2) ++ az_cM g ad (va_up (va_up Mo 0 o2588.2.1) 2 o2588.2.2))) _ := hP
  have hD : va_D A (((az_ou g ob o2582.2.1 :: az_wF g ax an au aw o2582.2.2.1 o2582.2.2.2.1 o2582.2.2.2.2.1 o2582.2.2.2.2.2) ++ az_cM g ad (va_up (va_up Mo 0 o2588.2.1) 2 o2588.2.2))) := hD
  refine lv_iload hx hb dL_law_2597 (lv_at hl 1 rfl) ?_
  refine lv_icmp_eq (tgt := 2604) hx hb dL_law_2599 (by decide) (fun c2599 => ?_) (fun c2599 => ?_)
  · replace h := az_pos c2599 h
    refine lv_iload hx hb dL_law_2604 (lv_at hl 1 rfl) ?_
    refine lv_if_ne (tgt := 2621) hx hb dL_law_2606 (by decide) (fun c2606 => ?_) (fun c2606 => ?_)
    · replace h := az_neg c2606 h
      refine lv_goto (tgt := 2624) hx hb dL_law_2621 (by decide) ?_
      refine lv_iinc (v := y4 + (4 : Int32)) (lv' := [(4, .int (y4 + (4 : Int32))), (6, .int o2588.1), (5, .int o2582.1), (0, .ref (b)), (1, .ref (ax 0)), (2, .ref (ad 0)), (3, .ref (ob))]) hx hb dL_law_2624 hl (k := 6) rfl rfl (by decide) rfl (fun ls hl => ?_)
      refine lv_goto (tgt := 23) hx hb dL_law_2627 (by decide) ?_
      have hP : va_P g.1 az_cl (((az_ou g ob o2582.2.1 :: az_wF g ax an au aw o2582.2.2.1 o2582.2.2.2.1 o2582.2.2.2.2.1 o2582.2.2.2.2.2) ++ az_cM g ad (va_up (va_up Mo 0 o2588.2.1) 2 o2588.2.2))) _ := hP
      have hD : va_D A (((az_ou g ob o2582.2.1 :: az_wF g ax an au aw o2582.2.2.1 o2582.2.2.2.1 o2582.2.2.2.2.1 o2582.2.2.2.2.2) ++ az_cM g ad (va_up (va_up Mo 0 o2588.2.1) 2 o2588.2.2))) := hD
      exact ih _ _ _ _ _ _ _ _ _ _ _ _ (by omega) (by omega) h hP hD hS (lv_sub hl [3, 4, 5, 6, 0] rfl)
    · replace h := az_pos c2606 h
      refine lv_aload_n hx hb dL_law_2609 rfl (lv_at hl 5 rfl) ?_
      refine lv_iconst (v := (0 : Int32)) hx hb dL_law_2610 (by decide) ?_
      refine va_lald (D := g.1) (f := o2582.2.1) hx hb hK hP 0 2 rfl rfl (az_vin (by decide +kernel)) dL_law_2611 ?_
      refine lv_iload hx hb dL_law_2612 (lv_at hl 0 rfl) ?_
      refine lv_i2l (v := o2588.1.toInt64) hx hb dL_law_2614 rfl ?_
      refine W.lcmp hx hb dL_law_2615 ?_
      refine lv_if_eq (tgt := 2621) hx hb dL_law_2616 (by decide) (fun c2616 => ?_) (fun c2616 => ?_)
      · replace h := az_pos c2616 h
        refine lv_goto (tgt := 2624) hx hb dL_law_2621 (by decide) ?_
        refine lv_iinc (v := y4 + (4 : Int32)) (lv' := [(4, .int (y4 + (4 : Int32))), (6, .int o2588.1), (5, .int o2582.1), (0, .ref (b)), (1, .ref (ax 0)), (2, .ref (ad 0)), (3, .ref (ob))]) hx hb dL_law_2624 hl (k := 6) rfl rfl (by decide) rfl (fun ls hl => ?_)
        refine lv_goto (tgt := 23) hx hb dL_law_2627 (by decide) ?_
        have hP : va_P g.1 az_cl (((az_ou g ob o2582.2.1 :: az_wF g ax an au aw o2582.2.2.1 o2582.2.2.2.1 o2582.2.2.2.2.1 o2582.2.2.2.2.2) ++ az_cM g ad (va_up (va_up Mo 0 o2588.2.1) 2 o2588.2.2))) _ := hP
        have hD : va_D A (((az_ou g ob o2582.2.1 :: az_wF g ax an au aw o2582.2.2.1 o2582.2.2.2.1 o2582.2.2.2.2.1 o2582.2.2.2.2.2) ++ az_cM g ad (va_up (va_up Mo 0 o2588.2.1) 2 o2588.2.2))) := hD
        exact ih _ _ _ _ _ _ _ _ _ _ _ _ (by omega) (by omega) h hP hD hS (lv_sub hl [3, 4, 5, 6, 0] rfl)
      · replace h := az_neg c2616 h
        refine lv_iconst (v := (0 : Int32)) hx hb dL_law_2619 (by decide) ?_
        exact absurd (Option.some.inj h) (by decide)
  · replace h := az_neg c2599 h
    refine lv_iconst (v := (0 : Int32)) hx hb dL_law_2602 (by decide) ?_
    exact absurd (Option.some.inj h) (by decide)
set_option maxHeartbeats 8000000 in
set_option maxRecDepth 100000 in
theorem LWCd {p : Program} {e : Env} {s : State} {m : MethodId} {below : List Frame} {meth : Method} {c : Code} (l : Launch) (hst : l.stackTraces = false) {b L : Nat} {xs : Nat → Int32} (hL : L ≤ 2048) (C0 : lw_At p s m meth c b L xs) (g : az_G) (sa : Nat → Nat) (ax an au : Nat → Nat) (aw : Nat → Nat → Nat) (ob : Nat) (ad : Nat → Nat) (hX : va_X b L xs s s.heap) (hbl : b < s.heap.size) (hbA : ¬ (fun q : Nat => s.heap.size ≤ q) b) (hcx : az_cx sa (fun q : Nat => s.heap.size ≤ q) s s.heap) (hA : ∀ q : Nat, s.heap.size ≤ q → (fun q : Nat => s.heap.size ≤ q) q) (hK : va_K g.1 az_cl (az_tys g) s) (hts : ∀ w ∈ wsL_law, w.before #[Value.ref b] s = true) (n : Nat) (ih : ∀ (cn sn : Nat) (V T : az_St) (S : Nat → az_St) (hs : Nat → Int32) (Mo : az_St) (f : Nat → Int64) (y4 : Int32) (H : Heap) (locs : List Loc) (ls : Array Slot), cn + 6 * n ≤ 5000 → sn + 36 * n ≤ 60000 → F_law_L n xs L V T S hs Mo f y4 = some 1 → va_P g.1 az_cl (((az_ou g ob f :: az_wF g ax an au aw V T S hs) ++ az_cM g ad Mo)) H → va_D (fun q : Nat => s.heap.size ≤ q) (((az_ou g ob f :: az_wF g ax an au aw V T S hs) ++ az_cM g ad Mo)) → va_S (fun q : Nat => s.heap.size ≤ q) s.heap H locs → lv_has ls 7 [(0, .ref (b)), (1, .ref (ax 0)), (2, .ref (ad 0)), (3, .ref (ob)), (4, .int y4)] → W p l e room_1 s m #[Value.ref b] below meth c H locs cn sn (lw_Z below #[Value.ref b] s) (F0 m 23 ls [])) : ∀ (cn sn : Nat) (V T : az_St) (S : Nat → az_St) (hs : Nat → Int32) (Mo : az_St) (f : Nat → Int64) (y4 : Int32) (H : Heap) (locs : List Loc) (ls : Array Slot), cn + 6 * (n + 1) ≤ 5000 → sn + 36 * (n + 1) ≤ 60000 → ¬ ((Int32.ofNat L) - (4 : Int32) < y4) → az_in y4 L = true → F_law_Cd (fun V T S hs Mo f y4 => F_law_L n xs L V T S hs Mo f y4) xs L V T S hs Mo f y4 = some 1 → va_P g.1 az_cl (((az_ou g ob f :: az_wF g ax an au aw V T S hs) ++ az_cM g ad Mo)) H → va_D (fun q : Nat => s.heap.size ≤ q) (((az_ou g ob f :: az_wF g ax an au aw V T S hs) ++ az_cM g ad Mo)) → va_S (fun q : Nat => s.heap.size ≤ q) s.heap H locs → lv_has ls 7 [(0, .ref (b)), (1, .ref (ax 0)), (2, .ref (ad 0)), (3, .ref (ob)), (4, .int y4)] → W p l e room_1 s m #[Value.ref b] below meth c H locs cn sn (lw_Z below #[Value.ref b] s) (F0 m 2624 ls []) := by
  intro cn sn V T S hs Mo f y4 H locs ls hcn hsn c29 i35 h hP hD hS hl
  obtain ⟨hx, hb, hr, hml, hown, -, -, -, hlocks, -⟩ := id C0
  unfold F_law_Cd at h
  obtain ⟨A, eA⟩ : ∃ A : Nat → Prop, A = (fun q : Nat => s.heap.size ≤ q) := ⟨_, rfl⟩
  rw [← eA] at hbA hcx hA hD hS ih
  refine lv_iinc (v := y4 + (4 : Int32)) (lv' := [(4, .int (y4 + (4 : Int32))), (0, .ref (b)), (1, .ref (ax 0)), (2, .ref (ad 0)), (3, .ref (ob))]) hx hb dL_law_2624 hl (k := 4) rfl rfl (by decide) rfl (fun ls hl => ?_)
  refine lv_goto (tgt := 23) hx hb dL_law_2627 (by decide) ?_
  have hP : va_P g.1 az_cl (((az_ou g ob f :: az_wF g ax an au aw V T S hs) ++ az_cM g ad Mo)) _ := hP
  have hD : va_D A (((az_ou g ob f :: az_wF g ax an au aw V T S hs) ++ az_cM g ad Mo)) := hD
  exact ih _ _ _ _ _ _ _ _ _ _ _ _ (by omega) (by omega) h hP hD hS (lv_sub hl [1, 2, 3, 4, 0] rfl)
