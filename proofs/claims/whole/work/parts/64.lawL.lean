set_option maxHeartbeats 8000000 in
set_option maxRecDepth 100000 in
theorem law_loop {p : Program} {e : Env} {s : State} {m : MethodId} {below : List Frame} {meth : Method} {c : Code} (l : Launch) (hst : l.stackTraces = false) {b L : Nat} {xs : Nat → Int32} (hL : L ≤ 2048) (C0 : lw_At p s m meth c b L xs) (g : az_G) (sa : Nat → Nat) (ax an au : Nat → Nat) (aw : Nat → Nat → Nat) (ob : Nat) (ad : Nat → Nat) (hX : va_X b L xs s s.heap) (hbl : b < s.heap.size) (hbA : ¬ (fun q : Nat => s.heap.size ≤ q) b) (hcx : az_cx sa (fun q : Nat => s.heap.size ≤ q) s s.heap) (hA : ∀ q : Nat, s.heap.size ≤ q → (fun q : Nat => s.heap.size ≤ q) q) (hK : va_K g.1 az_cl (az_tys g) s) (hts : ∀ w ∈ wsL_law, w.before #[Value.ref b] s = true) : ∀ (n : Nat), ∀ (cn sn : Nat) (V T : az_St) (S : Nat → az_St) (hs : Nat → Int32) (Mo : az_St) (f : Nat → Int64) (y4 : Int32) (H : Heap) (locs : List Loc) (ls : Array Slot), cn + 6 * n ≤ 5000 → sn + 36 * n ≤ 60000 → F_law_L n xs L V T S hs Mo f y4 = some 1 → va_P g.1 az_cl (((az_ou g ob f :: az_wF g ax an au aw V T S hs) ++ az_cM g ad Mo)) H → va_D (fun q : Nat => s.heap.size ≤ q) (((az_ou g ob f :: az_wF g ax an au aw V T S hs) ++ az_cM g ad Mo)) → va_S (fun q : Nat => s.heap.size ≤ q) s.heap H locs → lv_has ls 7 [(0, .ref (b)), (1, .ref (ax 0)), (2, .ref (ad 0)), (3, .ref (ob)), (4, .int y4)] → W p l e room_1 s m #[Value.ref b] below meth c H locs cn sn (lw_Z below #[Value.ref b] s) (F0 m 23 ls []) := by
  obtain ⟨hx, hb, hr, hml, hown, -, -, -, hlocks, -⟩ := id C0
  intro n
  induction n with
  | zero => intro cn sn V T S hs Mo f y4 H locs ls hcn hsn h; exact az_non h
  | succ n ih =>
    intro cn sn V T S hs Mo f y4 H locs ls hcn hsn h hP hD hS hl
    rw [F_law_L_s] at h
    refine lv_iload hx hb dL_law_23 (lv_at hl 4 rfl) ?_
    refine lv_aload_n hx hb dL_law_25 rfl (lv_at hl 0 rfl) ?_
    refine va_slen hx hb hX hbl hbA hS dL_law_26 ?_
    refine lv_iconst (v := (4 : Int32)) hx hb dL_law_27 (by decide) ?_
    refine lv_isub hx hb dL_law_28 ?_
    refine lv_icmp_gt (tgt := 2630) hx hb dL_law_29 (by decide) (fun c29 => ?_) (fun c29 => ?_)
    · replace h := az_pos c29 h
      refine lv_iconst (v := (1 : Int32)) hx hb dL_law_2630 (by decide) ?_
      refine va_forget (fun q hq => hS.2.2 q hq) ?_
      refine W.widen (k := 601024) (n := 7293034) (by omega) (by omega) ?_
      exact lw_ret hx hb hr hlocks dL_law_2631
    · replace h := az_neg c29 h
      refine lv_aload_n hx hb dL_law_32 rfl (lv_at hl 0 rfl) ?_
      refine lv_iload hx hb dL_law_33 (lv_at hl 4 rfl) ?_
      obtain ⟨i35, h⟩ := az_ite h
      refine va_sld hx hb hX hbl hbA hS (az_vin i35) dL_law_35 ?_
      refine lv_bipush (v := (63 : Int32)) hx hb dL_law_36 (by decide) ?_
      refine lv_iand hx hb dL_law_38 ?_
      obtain ⟨op, eop⟩ : ∃ z, z = (xs y4.toNatClampNeg) &&& (63 : Int32) := ⟨_, rfl⟩
      rw [← eop] at h ⊢
      by_cases s0 : op = (0 : Int32)
      · replace h := az_pos s0 h
        refine lv_tableIn (tgt := 236) (off := 197) hx hb dL_law_39 (by rw [s0]; decide) (by rw [s0]; decide) (by rw [s0]; rfl) (by decide) ?_
        exact LWC0 l hst hL C0 g sa ax an au aw ob ad hX hbl hbA hcx hA hK hts n ih cn sn V T S hs Mo f y4 H locs ls hcn hsn c29 i35 h hP hD hS hl
      replace h := az_neg s0 h
      by_cases s1 : op = (1 : Int32)
      · replace h := az_pos s1 h
        refine lv_tableIn (tgt := 296) (off := 257) hx hb dL_law_39 (by rw [s1]; decide) (by rw [s1]; decide) (by rw [s1]; rfl) (by decide) ?_
        exact LWC1 l hst hL C0 g sa ax an au aw ob ad hX hbl hbA hcx hA hK hts n ih cn sn V T S hs Mo f y4 H locs ls hcn hsn c29 i35 h hP hD hS hl
      replace h := az_neg s1 h
      by_cases s2 : op = (2 : Int32)
      · replace h := az_pos s2 h
        refine lv_tableIn (tgt := 364) (off := 325) hx hb dL_law_39 (by rw [s2]; decide) (by rw [s2]; decide) (by rw [s2]; rfl) (by decide) ?_
        exact LWC2 l hst hL C0 g sa ax an au aw ob ad hX hbl hbA hcx hA hK hts n ih cn sn V T S hs Mo f y4 H locs ls hcn hsn c29 i35 h hP hD hS hl
      replace h := az_neg s2 h
      by_cases s3 : op = (3 : Int32)
      · replace h := az_pos s3 h
        refine lv_tableIn (tgt := 420) (off := 381) hx hb dL_law_39 (by rw [s3]; decide) (by rw [s3]; decide) (by rw [s3]; rfl) (by decide) ?_
        exact LWC3 l hst hL C0 g sa ax an au aw ob ad hX hbl hbA hcx hA hK hts n ih cn sn V T S hs Mo f y4 H locs ls hcn hsn c29 i35 h hP hD hS hl
      replace h := az_neg s3 h
      by_cases s4 : op = (4 : Int32)
      · replace h := az_pos s4 h
        refine lv_tableIn (tgt := 476) (off := 437) hx hb dL_law_39 (by rw [s4]; decide) (by rw [s4]; decide) (by rw [s4]; rfl) (by decide) ?_
        exact LWC4 l hst hL C0 g sa ax an au aw ob ad hX hbl hbA hcx hA hK hts n ih cn sn V T S hs Mo f y4 H locs ls hcn hsn c29 i35 h hP hD hS hl
      replace h := az_neg s4 h
      by_cases s5 : op = (5 : Int32)
      · replace h := az_pos s5 h
        refine lv_tableIn (tgt := 532) (off := 493) hx hb dL_law_39 (by rw [s5]; decide) (by rw [s5]; decide) (by rw [s5]; rfl) (by decide) ?_
        exact LWC5 l hst hL C0 g sa ax an au aw ob ad hX hbl hbA hcx hA hK hts n ih cn sn V T S hs Mo f y4 H locs ls hcn hsn c29 i35 h hP hD hS hl
      replace h := az_neg s5 h
      by_cases s6 : op = (6 : Int32)
      · replace h := az_pos s6 h
        refine lv_tableIn (tgt := 545) (off := 506) hx hb dL_law_39 (by rw [s6]; decide) (by rw [s6]; decide) (by rw [s6]; rfl) (by decide) ?_
        exact LWC6 l hst hL C0 g sa ax an au aw ob ad hX hbl hbA hcx hA hK hts n ih cn sn V T S hs Mo f y4 H locs ls hcn hsn c29 i35 h hP hD hS hl
      replace h := az_neg s6 h
      by_cases s7 : op = (7 : Int32)
      · replace h := az_pos s7 h
        refine lv_tableIn (tgt := 601) (off := 562) hx hb dL_law_39 (by rw [s7]; decide) (by rw [s7]; decide) (by rw [s7]; rfl) (by decide) ?_
        exact LWC7 l hst hL C0 g sa ax an au aw ob ad hX hbl hbA hcx hA hK hts n ih cn sn V T S hs Mo f y4 H locs ls hcn hsn c29 i35 h hP hD hS hl
      replace h := az_neg s7 h
      by_cases s8 : op = (8 : Int32)
      · replace h := az_pos s8 h
        refine lv_tableIn (tgt := 669) (off := 630) hx hb dL_law_39 (by rw [s8]; decide) (by rw [s8]; decide) (by rw [s8]; rfl) (by decide) ?_
        exact LWC8 l hst hL C0 g sa ax an au aw ob ad hX hbl hbA hcx hA hK hts n ih cn sn V T S hs Mo f y4 H locs ls hcn hsn c29 i35 h hP hD hS hl
      replace h := az_neg s8 h
      by_cases s9 : op = (9 : Int32)
      · replace h := az_pos s9 h
        refine lv_tableIn (tgt := 725) (off := 686) hx hb dL_law_39 (by rw [s9]; decide) (by rw [s9]; decide) (by rw [s9]; rfl) (by decide) ?_
        exact LWC9 l hst hL C0 g sa ax an au aw ob ad hX hbl hbA hcx hA hK hts n ih cn sn V T S hs Mo f y4 H locs ls hcn hsn c29 i35 h hP hD hS hl
      replace h := az_neg s9 h
      by_cases s10 : op = (10 : Int32)
      · replace h := az_pos s10 h
        refine lv_tableIn (tgt := 781) (off := 742) hx hb dL_law_39 (by rw [s10]; decide) (by rw [s10]; decide) (by rw [s10]; rfl) (by decide) ?_
        exact LWC10 l hst hL C0 g sa ax an au aw ob ad hX hbl hbA hcx hA hK hts n ih cn sn V T S hs Mo f y4 H locs ls hcn hsn c29 i35 h hP hD hS hl
      replace h := az_neg s10 h
      by_cases s11 : op = (11 : Int32)
      · replace h := az_pos s11 h
        refine lv_tableIn (tgt := 837) (off := 798) hx hb dL_law_39 (by rw [s11]; decide) (by rw [s11]; decide) (by rw [s11]; rfl) (by decide) ?_
        exact LWC11 l hst hL C0 g sa ax an au aw ob ad hX hbl hbA hcx hA hK hts n ih cn sn V T S hs Mo f y4 H locs ls hcn hsn c29 i35 h hP hD hS hl
      replace h := az_neg s11 h
      by_cases s12 : op = (12 : Int32)
      · replace h := az_pos s12 h
        refine lv_tableIn (tgt := 905) (off := 866) hx hb dL_law_39 (by rw [s12]; decide) (by rw [s12]; decide) (by rw [s12]; rfl) (by decide) ?_
        exact LWC12 l hst hL C0 g sa ax an au aw ob ad hX hbl hbA hcx hA hK hts n ih cn sn V T S hs Mo f y4 H locs ls hcn hsn c29 i35 h hP hD hS hl
      replace h := az_neg s12 h
      by_cases s13 : op = (13 : Int32)
      · replace h := az_pos s13 h
        refine lv_tableIn (tgt := 961) (off := 922) hx hb dL_law_39 (by rw [s13]; decide) (by rw [s13]; decide) (by rw [s13]; rfl) (by decide) ?_
        exact LWC13 l hst hL C0 g sa ax an au aw ob ad hX hbl hbA hcx hA hK hts n ih cn sn V T S hs Mo f y4 H locs ls hcn hsn c29 i35 h hP hD hS hl
      replace h := az_neg s13 h
      by_cases s14 : op = (14 : Int32)
      · replace h := az_pos s14 h
        refine lv_tableIn (tgt := 1029) (off := 990) hx hb dL_law_39 (by rw [s14]; decide) (by rw [s14]; decide) (by rw [s14]; rfl) (by decide) ?_
        exact LWC14 l hst hL C0 g sa ax an au aw ob ad hX hbl hbA hcx hA hK hts n ih cn sn V T S hs Mo f y4 H locs ls hcn hsn c29 i35 h hP hD hS hl
      replace h := az_neg s14 h
      by_cases s15 : op = (15 : Int32)
      · replace h := az_pos s15 h
        refine lv_tableIn (tgt := 1085) (off := 1046) hx hb dL_law_39 (by rw [s15]; decide) (by rw [s15]; decide) (by rw [s15]; rfl) (by decide) ?_
        exact LWC15 l hst hL C0 g sa ax an au aw ob ad hX hbl hbA hcx hA hK hts n ih cn sn V T S hs Mo f y4 H locs ls hcn hsn c29 i35 h hP hD hS hl
      replace h := az_neg s15 h
      by_cases s16 : op = (16 : Int32)
      · replace h := az_pos s16 h
        refine lv_tableIn (tgt := 1141) (off := 1102) hx hb dL_law_39 (by rw [s16]; decide) (by rw [s16]; decide) (by rw [s16]; rfl) (by decide) ?_
        exact LWC16 l hst hL C0 g sa ax an au aw ob ad hX hbl hbA hcx hA hK hts n ih cn sn V T S hs Mo f y4 H locs ls hcn hsn c29 i35 h hP hD hS hl
      replace h := az_neg s16 h
      by_cases s17 : op = (17 : Int32)
      · replace h := az_pos s17 h
        refine lv_tableIn (tgt := 1197) (off := 1158) hx hb dL_law_39 (by rw [s17]; decide) (by rw [s17]; decide) (by rw [s17]; rfl) (by decide) ?_
        exact LWC17 l hst hL C0 g sa ax an au aw ob ad hX hbl hbA hcx hA hK hts n ih cn sn V T S hs Mo f y4 H locs ls hcn hsn c29 i35 h hP hD hS hl
      replace h := az_neg s17 h
      by_cases s18 : op = (18 : Int32)
      · replace h := az_pos s18 h
        refine lv_tableIn (tgt := 1253) (off := 1214) hx hb dL_law_39 (by rw [s18]; decide) (by rw [s18]; decide) (by rw [s18]; rfl) (by decide) ?_
        exact LWC18 l hst hL C0 g sa ax an au aw ob ad hX hbl hbA hcx hA hK hts n ih cn sn V T S hs Mo f y4 H locs ls hcn hsn c29 i35 h hP hD hS hl
      replace h := az_neg s18 h
      by_cases s19 : op = (19 : Int32)
      · replace h := az_pos s19 h
        refine lv_tableIn (tgt := 1321) (off := 1282) hx hb dL_law_39 (by rw [s19]; decide) (by rw [s19]; decide) (by rw [s19]; rfl) (by decide) ?_
        exact LWC19 l hst hL C0 g sa ax an au aw ob ad hX hbl hbA hcx hA hK hts n ih cn sn V T S hs Mo f y4 H locs ls hcn hsn c29 i35 h hP hD hS hl
      replace h := az_neg s19 h
      by_cases s20 : op = (20 : Int32)
      · replace h := az_pos s20 h
        refine lv_tableIn (tgt := 1389) (off := 1350) hx hb dL_law_39 (by rw [s20]; decide) (by rw [s20]; decide) (by rw [s20]; rfl) (by decide) ?_
        exact LWC20 l hst hL C0 g sa ax an au aw ob ad hX hbl hbA hcx hA hK hts n ih cn sn V T S hs Mo f y4 H locs ls hcn hsn c29 i35 h hP hD hS hl
      replace h := az_neg s20 h
      by_cases s21 : op = (21 : Int32)
      · replace h := az_pos s21 h
        refine lv_tableIn (tgt := 1457) (off := 1418) hx hb dL_law_39 (by rw [s21]; decide) (by rw [s21]; decide) (by rw [s21]; rfl) (by decide) ?_
        exact LWC21 l hst hL C0 g sa ax an au aw ob ad hX hbl hbA hcx hA hK hts n ih cn sn V T S hs Mo f y4 H locs ls hcn hsn c29 i35 h hP hD hS hl
      replace h := az_neg s21 h
      by_cases s22 : op = (22 : Int32)
      · replace h := az_pos s22 h
        refine lv_tableIn (tgt := 1525) (off := 1486) hx hb dL_law_39 (by rw [s22]; decide) (by rw [s22]; decide) (by rw [s22]; rfl) (by decide) ?_
        exact LWC22 l hst hL C0 g sa ax an au aw ob ad hX hbl hbA hcx hA hK hts n ih cn sn V T S hs Mo f y4 H locs ls hcn hsn c29 i35 h hP hD hS hl
      replace h := az_neg s22 h
      by_cases s23 : op = (23 : Int32)
      · replace h := az_pos s23 h
        refine lv_tableIn (tgt := 1538) (off := 1499) hx hb dL_law_39 (by rw [s23]; decide) (by rw [s23]; decide) (by rw [s23]; rfl) (by decide) ?_
        exact LWC23 l hst hL C0 g sa ax an au aw ob ad hX hbl hbA hcx hA hK hts n ih cn sn V T S hs Mo f y4 H locs ls hcn hsn c29 i35 h hP hD hS hl
      replace h := az_neg s23 h
      by_cases s24 : op = (24 : Int32)
      · replace h := az_pos s24 h
        refine lv_tableIn (tgt := 1594) (off := 1555) hx hb dL_law_39 (by rw [s24]; decide) (by rw [s24]; decide) (by rw [s24]; rfl) (by decide) ?_
        exact LWC24 l hst hL C0 g sa ax an au aw ob ad hX hbl hbA hcx hA hK hts n ih cn sn V T S hs Mo f y4 H locs ls hcn hsn c29 i35 h hP hD hS hl
      replace h := az_neg s24 h
      by_cases s25 : op = (25 : Int32)
      · replace h := az_pos s25 h
        refine lv_tableIn (tgt := 1650) (off := 1611) hx hb dL_law_39 (by rw [s25]; decide) (by rw [s25]; decide) (by rw [s25]; rfl) (by decide) ?_
        exact LWC25 l hst hL C0 g sa ax an au aw ob ad hX hbl hbA hcx hA hK hts n ih cn sn V T S hs Mo f y4 H locs ls hcn hsn c29 i35 h hP hD hS hl
      replace h := az_neg s25 h
      by_cases s26 : op = (26 : Int32)
      · replace h := az_pos s26 h
        refine lv_tableIn (tgt := 1663) (off := 1624) hx hb dL_law_39 (by rw [s26]; decide) (by rw [s26]; decide) (by rw [s26]; rfl) (by decide) ?_
        exact LWC26 l hst hL C0 g sa ax an au aw ob ad hX hbl hbA hcx hA hK hts n ih cn sn V T S hs Mo f y4 H locs ls hcn hsn c29 i35 h hP hD hS hl
      replace h := az_neg s26 h
      by_cases s27 : op = (27 : Int32)
      · replace h := az_pos s27 h
        refine lv_tableIn (tgt := 1707) (off := 1668) hx hb dL_law_39 (by rw [s27]; decide) (by rw [s27]; decide) (by rw [s27]; rfl) (by decide) ?_
        exact LWC27 l hst hL C0 g sa ax an au aw ob ad hX hbl hbA hcx hA hK hts n ih cn sn V T S hs Mo f y4 H locs ls hcn hsn c29 i35 h hP hD hS hl
      replace h := az_neg s27 h
      by_cases s28 : op = (28 : Int32)
      · replace h := az_pos s28 h
        refine lv_tableIn (tgt := 1763) (off := 1724) hx hb dL_law_39 (by rw [s28]; decide) (by rw [s28]; decide) (by rw [s28]; rfl) (by decide) ?_
        exact LWC28 l hst hL C0 g sa ax an au aw ob ad hX hbl hbA hcx hA hK hts n ih cn sn V T S hs Mo f y4 H locs ls hcn hsn c29 i35 h hP hD hS hl
      replace h := az_neg s28 h
      by_cases s29 : op = (29 : Int32)
      · replace h := az_pos s29 h
        refine lv_tableIn (tgt := 1819) (off := 1780) hx hb dL_law_39 (by rw [s29]; decide) (by rw [s29]; decide) (by rw [s29]; rfl) (by decide) ?_
        exact LWC29 l hst hL C0 g sa ax an au aw ob ad hX hbl hbA hcx hA hK hts n ih cn sn V T S hs Mo f y4 H locs ls hcn hsn c29 i35 h hP hD hS hl
      replace h := az_neg s29 h
      by_cases s30 : op = (30 : Int32)
      · replace h := az_pos s30 h
        refine lv_tableIn (tgt := 1875) (off := 1836) hx hb dL_law_39 (by rw [s30]; decide) (by rw [s30]; decide) (by rw [s30]; rfl) (by decide) ?_
        exact LWC30 l hst hL C0 g sa ax an au aw ob ad hX hbl hbA hcx hA hK hts n ih cn sn V T S hs Mo f y4 H locs ls hcn hsn c29 i35 h hP hD hS hl
      replace h := az_neg s30 h
      by_cases s31 : op = (31 : Int32)
      · replace h := az_pos s31 h
        refine lv_tableIn (tgt := 1943) (off := 1904) hx hb dL_law_39 (by rw [s31]; decide) (by rw [s31]; decide) (by rw [s31]; rfl) (by decide) ?_
        exact LWC31 l hst hL C0 g sa ax an au aw ob ad hX hbl hbA hcx hA hK hts n ih cn sn V T S hs Mo f y4 H locs ls hcn hsn c29 i35 h hP hD hS hl
      replace h := az_neg s31 h
      by_cases s32 : op = (32 : Int32)
      · replace h := az_pos s32 h
        refine lv_tableIn (tgt := 2027) (off := 1988) hx hb dL_law_39 (by rw [s32]; decide) (by rw [s32]; decide) (by rw [s32]; rfl) (by decide) ?_
        exact LWC32 l hst hL C0 g sa ax an au aw ob ad hX hbl hbA hcx hA hK hts n ih cn sn V T S hs Mo f y4 H locs ls hcn hsn c29 i35 h hP hD hS hl
      replace h := az_neg s32 h
      by_cases s33 : op = (33 : Int32)
      · replace h := az_pos s33 h
        refine lv_tableIn (tgt := 2095) (off := 2056) hx hb dL_law_39 (by rw [s33]; decide) (by rw [s33]; decide) (by rw [s33]; rfl) (by decide) ?_
        exact LWC33 l hst hL C0 g sa ax an au aw ob ad hX hbl hbA hcx hA hK hts n ih cn sn V T S hs Mo f y4 H locs ls hcn hsn c29 i35 h hP hD hS hl
      replace h := az_neg s33 h
      by_cases s34 : op = (34 : Int32)
      · replace h := az_pos s34 h
        refine lv_tableIn (tgt := 2151) (off := 2112) hx hb dL_law_39 (by rw [s34]; decide) (by rw [s34]; decide) (by rw [s34]; rfl) (by decide) ?_
        exact LWC34 l hst hL C0 g sa ax an au aw ob ad hX hbl hbA hcx hA hK hts n ih cn sn V T S hs Mo f y4 H locs ls hcn hsn c29 i35 h hP hD hS hl
      replace h := az_neg s34 h
      by_cases s35 : op = (35 : Int32)
      · replace h := az_pos s35 h
        refine lv_tableIn (tgt := 2207) (off := 2168) hx hb dL_law_39 (by rw [s35]; decide) (by rw [s35]; decide) (by rw [s35]; rfl) (by decide) ?_
        exact LWC35 l hst hL C0 g sa ax an au aw ob ad hX hbl hbA hcx hA hK hts n ih cn sn V T S hs Mo f y4 H locs ls hcn hsn c29 i35 h hP hD hS hl
      replace h := az_neg s35 h
      by_cases s36 : op = (36 : Int32)
      · replace h := az_pos s36 h
        refine lv_tableIn (tgt := 2220) (off := 2181) hx hb dL_law_39 (by rw [s36]; decide) (by rw [s36]; decide) (by rw [s36]; rfl) (by decide) ?_
        exact LWC36 l hst hL C0 g sa ax an au aw ob ad hX hbl hbA hcx hA hK hts n ih cn sn V T S hs Mo f y4 H locs ls hcn hsn c29 i35 h hP hD hS hl
      replace h := az_neg s36 h
      by_cases s37 : op = (37 : Int32)
      · replace h := az_pos s37 h
        refine lv_tableIn (tgt := 2233) (off := 2194) hx hb dL_law_39 (by rw [s37]; decide) (by rw [s37]; decide) (by rw [s37]; rfl) (by decide) ?_
        exact LWC37 l hst hL C0 g sa ax an au aw ob ad hX hbl hbA hcx hA hK hts n ih cn sn V T S hs Mo f y4 H locs ls hcn hsn c29 i35 h hP hD hS hl
      replace h := az_neg s37 h
      by_cases s38 : op = (38 : Int32)
      · replace h := az_pos s38 h
        refine lv_tableIn (tgt := 2289) (off := 2250) hx hb dL_law_39 (by rw [s38]; decide) (by rw [s38]; decide) (by rw [s38]; rfl) (by decide) ?_
        exact LWC38 l hst hL C0 g sa ax an au aw ob ad hX hbl hbA hcx hA hK hts n ih cn sn V T S hs Mo f y4 H locs ls hcn hsn c29 i35 h hP hD hS hl
      replace h := az_neg s38 h
      by_cases s39 : op = (39 : Int32)
      · replace h := az_pos s39 h
        refine lv_tableIn (tgt := 2345) (off := 2306) hx hb dL_law_39 (by rw [s39]; decide) (by rw [s39]; decide) (by rw [s39]; rfl) (by decide) ?_
        exact LWC39 l hst hL C0 g sa ax an au aw ob ad hX hbl hbA hcx hA hK hts n ih cn sn V T S hs Mo f y4 H locs ls hcn hsn c29 i35 h hP hD hS hl
      replace h := az_neg s39 h
      by_cases s40 : op = (40 : Int32)
      · replace h := az_pos s40 h
        refine lv_tableIn (tgt := 2401) (off := 2362) hx hb dL_law_39 (by rw [s40]; decide) (by rw [s40]; decide) (by rw [s40]; rfl) (by decide) ?_
        exact LWC40 l hst hL C0 g sa ax an au aw ob ad hX hbl hbA hcx hA hK hts n ih cn sn V T S hs Mo f y4 H locs ls hcn hsn c29 i35 h hP hD hS hl
      replace h := az_neg s40 h
      by_cases s41 : op = (41 : Int32)
      · replace h := az_pos s41 h
        refine lv_tableIn (tgt := 2469) (off := 2430) hx hb dL_law_39 (by rw [s41]; decide) (by rw [s41]; decide) (by rw [s41]; rfl) (by decide) ?_
        exact LWC41 l hst hL C0 g sa ax an au aw ob ad hX hbl hbA hcx hA hK hts n ih cn sn V T S hs Mo f y4 H locs ls hcn hsn c29 i35 h hP hD hS hl
      replace h := az_neg s41 h
      by_cases s42 : op = (42 : Int32)
      · replace h := az_pos s42 h
        refine lv_tableIn (tgt := 2482) (off := 2443) hx hb dL_law_39 (by rw [s42]; decide) (by rw [s42]; decide) (by rw [s42]; rfl) (by decide) ?_
        exact LWC42 l hst hL C0 g sa ax an au aw ob ad hX hbl hbA hcx hA hK hts n ih cn sn V T S hs Mo f y4 H locs ls hcn hsn c29 i35 h hP hD hS hl
      replace h := az_neg s42 h
      by_cases s43 : op = (43 : Int32)
      · replace h := az_pos s43 h
        refine lv_tableIn (tgt := 2495) (off := 2456) hx hb dL_law_39 (by rw [s43]; decide) (by rw [s43]; decide) (by rw [s43]; rfl) (by decide) ?_
        exact LWC43 l hst hL C0 g sa ax an au aw ob ad hX hbl hbA hcx hA hK hts n ih cn sn V T S hs Mo f y4 H locs ls hcn hsn c29 i35 h hP hD hS hl
      replace h := az_neg s43 h
      by_cases s44 : op = (44 : Int32)
      · replace h := az_pos s44 h
        refine lv_tableIn (tgt := 2567) (off := 2528) hx hb dL_law_39 (by rw [s44]; decide) (by rw [s44]; decide) (by rw [s44]; rfl) (by decide) ?_
        exact LWC44 l hst hL C0 g sa ax an au aw ob ad hX hbl hbA hcx hA hK hts n ih cn sn V T S hs Mo f y4 H locs ls hcn hsn c29 i35 h hP hD hS hl
      replace h := az_neg s44 h
      by_cases s45 : op = (45 : Int32)
      · replace h := az_pos s45 h
        refine lv_tableIn (tgt := 2580) (off := 2541) hx hb dL_law_39 (by rw [s45]; decide) (by rw [s45]; decide) (by rw [s45]; rfl) (by decide) ?_
        exact LWC45 l hst hL C0 g sa ax an au aw ob ad hX hbl hbA hcx hA hK hts n ih cn sn V T S hs Mo f y4 H locs ls hcn hsn c29 i35 h hP hD hS hl
      replace h := az_neg s45 h
      refine lv_tableOut (tgt := 2624) hx hb dL_law_39 (by have n0 := lv_neT (a := 0) s0 (by decide); have n1 := lv_neT (a := 1) s1 (by decide); have n2 := lv_neT (a := 2) s2 (by decide); have n3 := lv_neT (a := 3) s3 (by decide); have n4 := lv_neT (a := 4) s4 (by decide); have n5 := lv_neT (a := 5) s5 (by decide); have n6 := lv_neT (a := 6) s6 (by decide); have n7 := lv_neT (a := 7) s7 (by decide); have n8 := lv_neT (a := 8) s8 (by decide); have n9 := lv_neT (a := 9) s9 (by decide); have n10 := lv_neT (a := 10) s10 (by decide); have n11 := lv_neT (a := 11) s11 (by decide); have n12 := lv_neT (a := 12) s12 (by decide); have n13 := lv_neT (a := 13) s13 (by decide); have n14 := lv_neT (a := 14) s14 (by decide); have n15 := lv_neT (a := 15) s15 (by decide); have n16 := lv_neT (a := 16) s16 (by decide); have n17 := lv_neT (a := 17) s17 (by decide); have n18 := lv_neT (a := 18) s18 (by decide); have n19 := lv_neT (a := 19) s19 (by decide); have n20 := lv_neT (a := 20) s20 (by decide); have n21 := lv_neT (a := 21) s21 (by decide); have n22 := lv_neT (a := 22) s22 (by decide); have n23 := lv_neT (a := 23) s23 (by decide); have n24 := lv_neT (a := 24) s24 (by decide); have n25 := lv_neT (a := 25) s25 (by decide); have n26 := lv_neT (a := 26) s26 (by decide); have n27 := lv_neT (a := 27) s27 (by decide); have n28 := lv_neT (a := 28) s28 (by decide); have n29 := lv_neT (a := 29) s29 (by decide); have n30 := lv_neT (a := 30) s30 (by decide); have n31 := lv_neT (a := 31) s31 (by decide); have n32 := lv_neT (a := 32) s32 (by decide); have n33 := lv_neT (a := 33) s33 (by decide); have n34 := lv_neT (a := 34) s34 (by decide); have n35 := lv_neT (a := 35) s35 (by decide); have n36 := lv_neT (a := 36) s36 (by decide); have n37 := lv_neT (a := 37) s37 (by decide); have n38 := lv_neT (a := 38) s38 (by decide); have n39 := lv_neT (a := 39) s39 (by decide); have n40 := lv_neT (a := 40) s40 (by decide); have n41 := lv_neT (a := 41) s41 (by decide); have n42 := lv_neT (a := 42) s42 (by decide); have n43 := lv_neT (a := 43) s43 (by decide); have n44 := lv_neT (a := 44) s44 (by decide); have n45 := lv_neT (a := 45) s45 (by decide); omega) (by decide) ?_
      exact LWCd l hst hL C0 g sa ax an au aw ob ad hX hbl hbA hcx hA hK hts n ih cn sn V T S hs Mo f y4 H locs ls hcn hsn c29 i35 h hP hD hS hl
