/-! 44.calls1: printed by wip/whole/gen.py out of the printed instructions -/
def FX6_isBetween (x0 : Int32) (x1 : Int32) (x2 : Int32) : Option (Int32) := if x0 < x1 then (some ((0 : Int32))) else (if x2 < x0 then (some ((0 : Int32))) else (some ((1 : Int32))))
set_option maxHeartbeats 4000000 in
set_option maxRecDepth 100000 in
theorem kX6_isBetween (l : Launch) (g : az_G)  (x0 : Int32) (x1 : Int32) (x2 : Int32) (o : Int32) (h : FX6_isBetween x0 x1 x2 = some o) : az_I l yX6_isBetween wsX6_isBetween ({ frames := 0, cells := 0, slots := 0, locals := 0 } : Room) [.int x0, .int x1, .int x2] g ([]) o ([]) := by
  refine az_body (cc := cX6_isBetween) (maxL := 3) (ret := (some .boolean)) (Qc := fun A => az_QI g ([]) o A) (by decide +kernel) rfl (Nat.le_of_ble_eq_true rfl) ?_
  intro p e s m args below meth c A hx hb hr hts hown hml hlocks hA hK hP hD hS ls hl
  have hl : lv_has ls 3 [(0, .int x0), (1, .int x1), (2, .int x2)] := hl
  unfold FX6_isBetween at h
  refine lv_iload_n hx hb dX6_isBetween_0 rfl (lv_at hl 0 rfl) ?_
  refine lv_iload_n hx hb dX6_isBetween_1 rfl (lv_at hl 1 rfl) ?_
  refine lv_icmp_lt (tgt := 14) hx hb dX6_isBetween_2 (by decide) (fun c2 => ?_) (fun c2 => ?_)
  · replace h := az_pos c2 h
    refine lv_iconst (v := (0 : Int32)) hx hb dX6_isBetween_14 (by decide) ?_
    have hP : va_P g.1 az_cl ([]) _ := hP
    have hD : va_D A ([]) := hD
    rw [← Option.some.inj h]
    exact az_zret hx hb hr hlocks (az_nar (r := (0 : Int32)) (by decide +kernel)) hK hP hD hS dX6_isBetween_15
  · replace h := az_neg c2 h
    refine lv_iload_n hx hb dX6_isBetween_5 rfl (lv_at hl 0 rfl) ?_
    refine lv_iload_n hx hb dX6_isBetween_6 rfl (lv_at hl 2 rfl) ?_
    refine lv_icmp_gt (tgt := 14) hx hb dX6_isBetween_7 (by decide) (fun c7 => ?_) (fun c7 => ?_)
    · replace h := az_pos c7 h
      refine lv_iconst (v := (0 : Int32)) hx hb dX6_isBetween_14 (by decide) ?_
      have hP : va_P g.1 az_cl ([]) _ := hP
      have hD : va_D A ([]) := hD
      rw [← Option.some.inj h]
      exact az_zret hx hb hr hlocks (az_nar (r := (0 : Int32)) (by decide +kernel)) hK hP hD hS dX6_isBetween_15
    · replace h := az_neg c7 h
      refine lv_iconst (v := (1 : Int32)) hx hb dX6_isBetween_10 (by decide) ?_
      refine lv_goto (tgt := 15) hx hb dX6_isBetween_11 (by decide) ?_
      have hP : va_P g.1 az_cl ([]) _ := hP
      have hD : va_D A ([]) := hD
      rw [← Option.some.inj h]
      exact az_zret hx hb hr hlocks (az_nar (r := (1 : Int32)) (by decide +kernel)) hK hP hD hS dX6_isBetween_15

def FX6_checkArgument (x0 : Int32) : Option (Nat) := if x0 = (0 : Int32) then (some 2) else (some (0))
theorem thno_0_307 : ∀ w ∈ (vx_at0 RX6 307 "java/lang/IllegalArgumentException" ["java/lang/RuntimeException", "java/lang/Exception"]).filter (fun w => !goodWord w), w ∈ Cond.castable "java/lang/IllegalArgumentException" "java/lang/IllegalArgumentException" :: az_dl := by decide +kernel
theorem thgd_0_170_307 : ∀ w ∈ Cond.classLink RX6 170 "java/lang/IllegalArgumentException" :: Cond.initialized "java/lang/IllegalArgumentException" :: vx_at0 RX6 307 "java/lang/IllegalArgumentException" ["java/lang/RuntimeException", "java/lang/Exception"], vx_ot w = true := by decide +kernel
set_option maxHeartbeats 4000000 in
set_option maxRecDepth 100000 in
theorem kX6_checkArgument (l : Launch) (hst : l.stackTraces = false) (g : az_G) (sa : Nat → Nat)  (x0 : Int32) (o : Nat) (h : FX6_checkArgument x0 = some o) : az_TV l yX6_checkArgument wsX6_checkArgument ({ frames := 6, cells := 1, slots := 6, locals := 100 } : Room) [.int x0] g sa ([]) o ([]) 1 := by
  refine az_bodyT (cc := cX6_checkArgument) (maxL := 1) (ret := none) (mc := 1) (ms := 6) (Qc := fun A => az_QTV g ([]) o A) (XC := fun A => az_XT g ([]) o A) (by decide +kernel) rfl (Nat.le_of_ble_eq_true rfl) ?_
  intro p e s m args below meth c A hx hb hr hts hown hml hlocks hex hcx hA hK hP hD hS ls hl
  have hl : lv_has ls 1 [(0, .int x0)] := hl
  unfold FX6_checkArgument at h
  refine lv_iload_n hx hb dX6_checkArgument_0 rfl (lv_at hl 0 rfl) ?_
  refine lv_if_ne (tgt := 12) hx hb dX6_checkArgument_1 (by decide) (fun c1 => ?_) (fun c1 => ?_)
  · replace h := az_neg c1 h
    have hP : va_P g.1 az_cl ([]) _ := hP
    have hD : va_D A ([]) := hD
    rw [← Option.some.inj h]
    exact az_vretT hx hb hr hlocks hK hP hD hS dX6_checkArgument_12 (Nat.le_of_ble_eq_true rfl) (Nat.le_of_ble_eq_true rfl)
  · replace h := az_pos c1 h
    have hP : va_P g.1 az_cl ([]) _ := hP
    have hD : va_D A ([]) := hD
    rw [← Option.some.inj h]
    exact az_throw0 (k := 2) (ws' := []) (by decide) rfl (by decide +kernel) hx hb hst hown (hts _ (List.mem_of_getElem? (i := 1) rfl)) (hts _ (List.mem_of_getElem? (i := 2) rfl)) hts (fun _ h => List.mem_cons_of_mem _ (List.mem_append_right _ h)) thno_0_307 thgd_0_170_307 hcx hK hP hD hS (hl.1.trans hml.symm) dX6_checkArgument_4 dX6_checkArgument_7 dX6_checkArgument_8 dX6_checkArgument_11 hex (Nat.le_of_ble_eq_true rfl) (Nat.le_of_ble_eq_true rfl) (Nat.le_of_ble_eq_true rfl) (Nat.le_of_ble_eq_true rfl) hlocks (Nat.le_of_ble_eq_true rfl) (Nat.le_of_ble_eq_true rfl)

def FX6_reset (V : az_St) (T : az_St) (S : Nat → az_St) (hs : Nat → Int32) (x1 : Int32) (x2 : Int32) (x3 : Int32) : Option (Nat × (Nat → az_St) × (Nat → Int32) × (Nat → Int32) × (Nat → Int32) × (Nat → Int32) × (Nat → Int32) × (Nat → Int32) × (Nat → Int32) × (Nat → Int32) × (Nat → Int32) × (Nat → Int32) × (Nat → Int32) × (Nat → Int32) × (Nat → Int32) × (Nat → Int32) × (Nat → Int32) × (Nat → Int32) × (Nat → Int32) × (Nat → Int32)) := (FX6_isBetween x1 (3 : Int32) (10 : Int32)).bind (fun o4 => (FX6_checkArgument o4).bind (fun o7 => if o7 = 0 then ((FX6_isBetween x2 (2 : Int32) (12 : Int32)).bind (fun o14 => (FX6_checkArgument o14).bind (fun o17 => if o17 = 0 then ((FX6_isBetween x3 (1 : Int32) (100 : Int32)).bind (fun o24 => (FX6_checkArgument o24).bind (fun o27 => if o27 = 0 then ((FX1_save S hs V).bind (fun o38 => (FX5_begin V x1 x2 x3).bind (fun o48 => some (0, o38.1, o48.1, o48.2.1, o48.2.2.1, o48.2.2.2.1, o48.2.2.2.2.1, o48.2.2.2.2.2.1, o48.2.2.2.2.2.2.1, o48.2.2.2.2.2.2.2.1, o48.2.2.2.2.2.2.2.2.1, o48.2.2.2.2.2.2.2.2.2.1, o48.2.2.2.2.2.2.2.2.2.2.1, o48.2.2.2.2.2.2.2.2.2.2.2.1, o48.2.2.2.2.2.2.2.2.2.2.2.2.1, o48.2.2.2.2.2.2.2.2.2.2.2.2.2.1, o48.2.2.2.2.2.2.2.2.2.2.2.2.2.2.1, o48.2.2.2.2.2.2.2.2.2.2.2.2.2.2.2.1, o48.2.2.2.2.2.2.2.2.2.2.2.2.2.2.2.2, o38.2)))) else some (o27, S, (V 0), (V 1), (V 2), (V 3), (V 4), (V 5), (V 6), (V 7), (V 8), (V 9), (V 10), (V 11), (V 12), (V 13), (V 14), (V 15), (V 16), hs)))) else some (o17, S, (V 0), (V 1), (V 2), (V 3), (V 4), (V 5), (V 6), (V 7), (V 8), (V 9), (V 10), (V 11), (V 12), (V 13), (V 14), (V 15), (V 16), hs)))) else some (o7, S, (V 0), (V 1), (V 2), (V 3), (V 4), (V 5), (V 6), (V 7), (V 8), (V 9), (V 10), (V 11), (V 12), (V 13), (V 14), (V 15), (V 16), hs)))
theorem inX6_reset_RX6 : ∀ w ∈ wsX60, w ∈ wsX6_reset := az_inr [122, 123, 124] (by decide +kernel)
set_option maxHeartbeats 4000000 in
set_option maxRecDepth 100000 in
theorem kX6_reset (l : Launch) (hst : l.stackTraces = false) (g : az_G) (sa : Nat → Nat) (ax : Nat → Nat) (an : Nat → Nat) (au : Nat → Nat) (aw : Nat → Nat → Nat) (V : az_St) (T : az_St) (S : Nat → az_St) (hs : Nat → Int32) (x1 : Int32) (x2 : Int32) (x3 : Int32) (o : Nat × (Nat → az_St) × (Nat → Int32) × (Nat → Int32) × (Nat → Int32) × (Nat → Int32) × (Nat → Int32) × (Nat → Int32) × (Nat → Int32) × (Nat → Int32) × (Nat → Int32) × (Nat → Int32) × (Nat → Int32) × (Nat → Int32) × (Nat → Int32) × (Nat → Int32) × (Nat → Int32) × (Nat → Int32) × (Nat → Int32) × (Nat → Int32)) (h : FX6_reset V T S hs x1 x2 x3 = some o) : az_TV l yX6_reset wsX6_reset ({ frames := 7, cells := 3, slots := 18, locals := 164 } : Room) [.ref (ax 0), .int x1, .int x2, .int x3] g sa (az_w6 g ax an au V (az_cV g au T ++ az_cH g ax aw S hs)) o.1 (az_w6 g ax an au (va_up (va_up (va_up (va_up (va_up (va_up (va_up (va_up (va_up (va_up (va_up (va_up (va_up (va_up (va_up (va_up (va_up V 0 o.2.2.1) 1 o.2.2.2.1) 2 o.2.2.2.2.1) 3 o.2.2.2.2.2.1) 4 o.2.2.2.2.2.2.1) 5 o.2.2.2.2.2.2.2.1) 6 o.2.2.2.2.2.2.2.2.1) 7 o.2.2.2.2.2.2.2.2.2.1) 8 o.2.2.2.2.2.2.2.2.2.2.1) 9 o.2.2.2.2.2.2.2.2.2.2.2.1) 10 o.2.2.2.2.2.2.2.2.2.2.2.2.1) 11 o.2.2.2.2.2.2.2.2.2.2.2.2.2.1) 12 o.2.2.2.2.2.2.2.2.2.2.2.2.2.2.1) 13 o.2.2.2.2.2.2.2.2.2.2.2.2.2.2.2.1) 14 o.2.2.2.2.2.2.2.2.2.2.2.2.2.2.2.2.1) 15 o.2.2.2.2.2.2.2.2.2.2.2.2.2.2.2.2.2.1) 16 o.2.2.2.2.2.2.2.2.2.2.2.2.2.2.2.2.2.2.1) (az_cV g au T ++ az_cH g ax aw o.2.1 o.2.2.2.2.2.2.2.2.2.2.2.2.2.2.2.2.2.2.2)) 3 := by
  refine az_bodyT (cc := cX6_reset) (maxL := 4) (ret := none) (mc := 3) (ms := 18) (Qc := fun A => az_QTV g (az_w6 g ax an au (va_up (va_up (va_up (va_up (va_up (va_up (va_up (va_up (va_up (va_up (va_up (va_up (va_up (va_up (va_up (va_up (va_up V 0 o.2.2.1) 1 o.2.2.2.1) 2 o.2.2.2.2.1) 3 o.2.2.2.2.2.1) 4 o.2.2.2.2.2.2.1) 5 o.2.2.2.2.2.2.2.1) 6 o.2.2.2.2.2.2.2.2.1) 7 o.2.2.2.2.2.2.2.2.2.1) 8 o.2.2.2.2.2.2.2.2.2.2.1) 9 o.2.2.2.2.2.2.2.2.2.2.2.1) 10 o.2.2.2.2.2.2.2.2.2.2.2.2.1) 11 o.2.2.2.2.2.2.2.2.2.2.2.2.2.1) 12 o.2.2.2.2.2.2.2.2.2.2.2.2.2.2.1) 13 o.2.2.2.2.2.2.2.2.2.2.2.2.2.2.2.1) 14 o.2.2.2.2.2.2.2.2.2.2.2.2.2.2.2.2.1) 15 o.2.2.2.2.2.2.2.2.2.2.2.2.2.2.2.2.2.1) 16 o.2.2.2.2.2.2.2.2.2.2.2.2.2.2.2.2.2.2.1) (az_cV g au T ++ az_cH g ax aw o.2.1 o.2.2.2.2.2.2.2.2.2.2.2.2.2.2.2.2.2.2.2)) o.1 A) (XC := fun A => az_XT g (az_w6 g ax an au (va_up (va_up (va_up (va_up (va_up (va_up (va_up (va_up (va_up (va_up (va_up (va_up (va_up (va_up (va_up (va_up (va_up V 0 o.2.2.1) 1 o.2.2.2.1) 2 o.2.2.2.2.1) 3 o.2.2.2.2.2.1) 4 o.2.2.2.2.2.2.1) 5 o.2.2.2.2.2.2.2.1) 6 o.2.2.2.2.2.2.2.2.1) 7 o.2.2.2.2.2.2.2.2.2.1) 8 o.2.2.2.2.2.2.2.2.2.2.1) 9 o.2.2.2.2.2.2.2.2.2.2.2.1) 10 o.2.2.2.2.2.2.2.2.2.2.2.2.1) 11 o.2.2.2.2.2.2.2.2.2.2.2.2.2.1) 12 o.2.2.2.2.2.2.2.2.2.2.2.2.2.2.1) 13 o.2.2.2.2.2.2.2.2.2.2.2.2.2.2.2.1) 14 o.2.2.2.2.2.2.2.2.2.2.2.2.2.2.2.2.1) 15 o.2.2.2.2.2.2.2.2.2.2.2.2.2.2.2.2.2.1) 16 o.2.2.2.2.2.2.2.2.2.2.2.2.2.2.2.2.2.2.1) (az_cV g au T ++ az_cH g ax aw o.2.1 o.2.2.2.2.2.2.2.2.2.2.2.2.2.2.2.2.2.2.2)) o.1 A) (by decide +kernel) rfl (Nat.le_of_ble_eq_true rfl) ?_
  intro p e s m args below meth c A hx hb hr hts hown hml hlocks hex hcx hA hK hP hD hS ls hl
  have hl : lv_has ls 4 [(0, .ref (ax 0)), (1, .int x1), (2, .int x2), (3, .int x3)] := hl
  unfold FX6_reset at h
  refine lv_iload_n hx hb dX6_reset_0 rfl (lv_at hl 1 rfl) ?_
  refine lv_iconst (v := (3 : Int32)) hx hb dX6_reset_1 (by decide) ?_
  refine lv_bipush (v := (10 : Int32)) hx hb dX6_reset_2 (by decide) ?_
  obtain ⟨o4, hc4, h⟩ := az_bnd h
  refine az_callS0 (As := [.int x1, .int (3 : Int32), .int (10 : Int32)]) (rest := []) ⟨hx, hb, hml, hown, hts⟩ hl.1 (kX6_isBetween l g x1 (3 : Int32) (10 : Int32) o4 hc4) (va_cwS 3 hts gX6_reset_X6_isBetween rfl rfl rfl (by decide +kernel) ⟨(Nat.le_of_ble_eq_true rfl), (Nat.le_of_ble_eq_true rfl)⟩) rfl hK hP hS hA (Nat.le_of_ble_eq_true rfl) dX6_reset_4 ⟨(Nat.le_of_ble_eq_true rfl), (Nat.le_of_ble_eq_true rfl)⟩ rfl (fun H locs hP hS => ?_)
  obtain ⟨o7, hc7, h⟩ := az_bnd h
  refine az_callST (As := [.int o4]) (rest := []) ⟨hx, hb, hml, hown, hts⟩ hl.1 (kX6_checkArgument l hst g sa o4 o7 hc7) (va_cwS 1 hts gX6_reset_X6_checkArgument rfl rfl rfl (by decide +kernel) ⟨(Nat.le_of_ble_eq_true rfl), (Nat.le_of_ble_eq_true rfl)⟩) rfl hK hcx hP hS hA (Nat.le_of_ble_eq_true rfl) dX6_reset_7 ⟨(Nat.le_of_ble_eq_true rfl), (Nat.le_of_ble_eq_true rfl)⟩ rfl (fun n7 ce q9 H locs hP hS hce hcv hcl => ?_) (fun c7 H locs hP hS => ?_)
  · replace h := az_neg n7 h
    have hP : va_P g.1 az_cl (az_w6 g ax an au (va_up (va_up (va_up (va_up (va_up (va_up (va_up (va_up (va_up (va_up (va_up (va_up (va_up (va_up (va_up (va_up (va_up V 0 (V 0)) 1 (V 1)) 2 (V 2)) 3 (V 3)) 4 (V 4)) 5 (V 5)) 6 (V 6)) 7 (V 7)) 8 (V 8)) 9 (V 9)) 10 (V 10)) 11 (V 11)) 12 (V 12)) 13 (V 13)) 14 (V 14)) 15 (V 15)) 16 (V 16)) (az_cV g au T ++ az_cH g ax aw S hs)) _ := hP
    have hD : va_D A (az_w6 g ax an au (va_up (va_up (va_up (va_up (va_up (va_up (va_up (va_up (va_up (va_up (va_up (va_up (va_up (va_up (va_up (va_up (va_up V 0 (V 0)) 1 (V 1)) 2 (V 2)) 3 (V 3)) 4 (V 4)) 5 (V 5)) 6 (V 6)) 7 (V 7)) 8 (V 8)) 9 (V 9)) 10 (V 10)) 11 (V 11)) 12 (V 12)) 13 (V 13)) 14 (V 14)) 15 (V 15)) 16 (V 16)) (az_cV g au T ++ az_cH g ax aw S hs)) := hD
    rw [← Option.some.inj h]
    exact az_outT n7 hex hlocks hce hcv hcl hK hP hD hS (Nat.le_of_ble_eq_true rfl) (Nat.le_of_ble_eq_true rfl)
  replace h := az_pos c7 h
  refine lv_iload_n hx hb dX6_reset_10 rfl (lv_at hl 2 rfl) ?_
  refine lv_iconst (v := (2 : Int32)) hx hb dX6_reset_11 (by decide) ?_
  refine lv_bipush (v := (12 : Int32)) hx hb dX6_reset_12 (by decide) ?_
  obtain ⟨o14, hc14, h⟩ := az_bnd h
  refine az_callS0 (As := [.int x2, .int (2 : Int32), .int (12 : Int32)]) (rest := []) ⟨hx, hb, hml, hown, hts⟩ hl.1 (kX6_isBetween l g x2 (2 : Int32) (12 : Int32) o14 hc14) (va_cwS 3 hts gX6_reset_X6_isBetween rfl rfl rfl (by decide +kernel) ⟨(Nat.le_of_ble_eq_true rfl), (Nat.le_of_ble_eq_true rfl)⟩) rfl hK hP hS hA (Nat.le_of_ble_eq_true rfl) dX6_reset_14 ⟨(Nat.le_of_ble_eq_true rfl), (Nat.le_of_ble_eq_true rfl)⟩ rfl (fun H locs hP hS => ?_)
  obtain ⟨o17, hc17, h⟩ := az_bnd h
  refine az_callST (As := [.int o14]) (rest := []) ⟨hx, hb, hml, hown, hts⟩ hl.1 (kX6_checkArgument l hst g sa o14 o17 hc17) (va_cwS 1 hts gX6_reset_X6_checkArgument rfl rfl rfl (by decide +kernel) ⟨(Nat.le_of_ble_eq_true rfl), (Nat.le_of_ble_eq_true rfl)⟩) rfl hK hcx hP hS hA (Nat.le_of_ble_eq_true rfl) dX6_reset_17 ⟨(Nat.le_of_ble_eq_true rfl), (Nat.le_of_ble_eq_true rfl)⟩ rfl (fun n17 ce q9 H locs hP hS hce hcv hcl => ?_) (fun c17 H locs hP hS => ?_)
  · replace h := az_neg n17 h
    have hP : va_P g.1 az_cl (az_w6 g ax an au (va_up (va_up (va_up (va_up (va_up (va_up (va_up (va_up (va_up (va_up (va_up (va_up (va_up (va_up (va_up (va_up (va_up V 0 (V 0)) 1 (V 1)) 2 (V 2)) 3 (V 3)) 4 (V 4)) 5 (V 5)) 6 (V 6)) 7 (V 7)) 8 (V 8)) 9 (V 9)) 10 (V 10)) 11 (V 11)) 12 (V 12)) 13 (V 13)) 14 (V 14)) 15 (V 15)) 16 (V 16)) (az_cV g au T ++ az_cH g ax aw S hs)) _ := hP
    have hD : va_D A (az_w6 g ax an au (va_up (va_up (va_up (va_up (va_up (va_up (va_up (va_up (va_up (va_up (va_up (va_up (va_up (va_up (va_up (va_up (va_up V 0 (V 0)) 1 (V 1)) 2 (V 2)) 3 (V 3)) 4 (V 4)) 5 (V 5)) 6 (V 6)) 7 (V 7)) 8 (V 8)) 9 (V 9)) 10 (V 10)) 11 (V 11)) 12 (V 12)) 13 (V 13)) 14 (V 14)) 15 (V 15)) 16 (V 16)) (az_cV g au T ++ az_cH g ax aw S hs)) := hD
    rw [← Option.some.inj h]
    exact az_outT n17 hex hlocks hce hcv hcl hK hP hD hS (Nat.le_of_ble_eq_true rfl) (Nat.le_of_ble_eq_true rfl)
  replace h := az_pos c17 h
  refine lv_iload_n hx hb dX6_reset_20 rfl (lv_at hl 3 rfl) ?_
  refine lv_iconst (v := (1 : Int32)) hx hb dX6_reset_21 (by decide) ?_
  refine lv_bipush (v := (100 : Int32)) hx hb dX6_reset_22 (by decide) ?_
  obtain ⟨o24, hc24, h⟩ := az_bnd h
  refine az_callS0 (As := [.int x3, .int (1 : Int32), .int (100 : Int32)]) (rest := []) ⟨hx, hb, hml, hown, hts⟩ hl.1 (kX6_isBetween l g x3 (1 : Int32) (100 : Int32) o24 hc24) (va_cwS 3 hts gX6_reset_X6_isBetween rfl rfl rfl (by decide +kernel) ⟨(Nat.le_of_ble_eq_true rfl), (Nat.le_of_ble_eq_true rfl)⟩) rfl hK hP hS hA (Nat.le_of_ble_eq_true rfl) dX6_reset_24 ⟨(Nat.le_of_ble_eq_true rfl), (Nat.le_of_ble_eq_true rfl)⟩ rfl (fun H locs hP hS => ?_)
  obtain ⟨o27, hc27, h⟩ := az_bnd h
  refine az_callST (As := [.int o24]) (rest := []) ⟨hx, hb, hml, hown, hts⟩ hl.1 (kX6_checkArgument l hst g sa o24 o27 hc27) (va_cwS 1 hts gX6_reset_X6_checkArgument rfl rfl rfl (by decide +kernel) ⟨(Nat.le_of_ble_eq_true rfl), (Nat.le_of_ble_eq_true rfl)⟩) rfl hK hcx hP hS hA (Nat.le_of_ble_eq_true rfl) dX6_reset_27 ⟨(Nat.le_of_ble_eq_true rfl), (Nat.le_of_ble_eq_true rfl)⟩ rfl (fun n27 ce q9 H locs hP hS hce hcv hcl => ?_) (fun c27 H locs hP hS => ?_)
  · replace h := az_neg n27 h
    have hP : va_P g.1 az_cl (az_w6 g ax an au (va_up (va_up (va_up (va_up (va_up (va_up (va_up (va_up (va_up (va_up (va_up (va_up (va_up (va_up (va_up (va_up (va_up V 0 (V 0)) 1 (V 1)) 2 (V 2)) 3 (V 3)) 4 (V 4)) 5 (V 5)) 6 (V 6)) 7 (V 7)) 8 (V 8)) 9 (V 9)) 10 (V 10)) 11 (V 11)) 12 (V 12)) 13 (V 13)) 14 (V 14)) 15 (V 15)) 16 (V 16)) (az_cV g au T ++ az_cH g ax aw S hs)) _ := hP
    have hD : va_D A (az_w6 g ax an au (va_up (va_up (va_up (va_up (va_up (va_up (va_up (va_up (va_up (va_up (va_up (va_up (va_up (va_up (va_up (va_up (va_up V 0 (V 0)) 1 (V 1)) 2 (V 2)) 3 (V 3)) 4 (V 4)) 5 (V 5)) 6 (V 6)) 7 (V 7)) 8 (V 8)) 9 (V 9)) 10 (V 10)) 11 (V 11)) 12 (V 12)) 13 (V 13)) 14 (V 14)) 15 (V 15)) 16 (V 16)) (az_cV g au T ++ az_cH g ax aw S hs)) := hD
    rw [← Option.some.inj h]
    exact az_outT n27 hex hlocks hce hcv hcl hK hP hD hS (Nat.le_of_ble_eq_true rfl) (Nat.le_of_ble_eq_true rfl)
  replace h := az_pos c27 h
  refine lv_aload_n hx hb dX6_reset_30 rfl (lv_at hl 0 rfl) ?_
  refine va_get (D := g.1) (ci := 6) (v := .ref (ax 1)) (C := RX6) (T := TX6) (N := 3) hx hb hts inX6_reset_RX6 hown hK hP 0 rfl rfl 2 (Nat.le_of_ble_eq_true rfl) (hts _ (List.mem_of_getElem? (i := 1) rfl)) (fun _ h9 => h9) rfl dX6_reset_31 ?_
  refine lv_aload_n hx hb dX6_reset_34 rfl (lv_at hl 0 rfl) ?_
  refine va_get (D := g.1) (ci := 6) (v := .ref (an 0)) (C := RX6) (T := TX6) (N := 3) hx hb hts inX6_reset_RX6 hown hK hP 0 rfl rfl 0 (Nat.le_of_ble_eq_true rfl) (hts _ (List.mem_of_getElem? (i := 2) rfl)) (fun _ h9 => h9) rfl dX6_reset_35 ?_
  obtain ⟨o38, hc38, h⟩ := az_bnd h
  refine az_callPv (w2 := az_w6 g ax an au V (az_cV g au T ++ az_cH g ax aw o38.1 o38.2)) (As := [.ref (an 0)]) (rest := []) ⟨hx, hb, hml, hown, hts⟩ hl.1 (kX1_save l g ax an aw S hs V o38 hc38) (cwV 1 hts gX6_reset_X1_save rfl rfl rfl (by decide +kernel) ⟨(Nat.le_of_ble_eq_true rfl), (Nat.le_of_ble_eq_true rfl)⟩) rfl hK hP hD hS hA (az_pH (az_x ax an au) (az_cV g an V) (az_cV g au T) (az_cH g ax aw S hs)) (az_pH (az_x ax an au) (az_cV g an V) (az_cV g au T) (az_cH g ax aw o38.1 o38.2)).symm 0 rfl rfl rfl (Nat.le_of_ble_eq_true rfl) dX6_reset_38 ⟨(Nat.le_of_ble_eq_true rfl), (Nat.le_of_ble_eq_true rfl)⟩ rfl (fun H locs hP hD hS => ?_)
  have hP : va_P g.1 az_cl (az_w6 g ax an au V (az_cV g au T ++ az_cH g ax aw o38.1 o38.2)) _ := hP
  have hD : va_D A (az_w6 g ax an au V (az_cV g au T ++ az_cH g ax aw o38.1 o38.2)) := hD
  refine lv_aload_n hx hb dX6_reset_41 rfl (lv_at hl 0 rfl) ?_
  refine va_get (D := g.1) (ci := 6) (v := .ref (an 0)) (C := RX6) (T := TX6) (N := 3) hx hb hts inX6_reset_RX6 hown hK hP 0 rfl rfl 0 (Nat.le_of_ble_eq_true rfl) (hts _ (List.mem_of_getElem? (i := 2) rfl)) (fun _ h9 => h9) rfl dX6_reset_42 ?_
  refine lv_iload_n hx hb dX6_reset_45 rfl (lv_at hl 1 rfl) ?_
  refine lv_iload_n hx hb dX6_reset_46 rfl (lv_at hl 2 rfl) ?_
  refine lv_iload_n hx hb dX6_reset_47 rfl (lv_at hl 3 rfl) ?_
  obtain ⟨o48, hc48, h⟩ := az_bnd h
  refine az_callPv (w2 := az_w6 g ax an au (va_up (va_up (va_up (va_up (va_up (va_up (va_up (va_up (va_up (va_up (va_up (va_up (va_up (va_up (va_up (va_up (va_up V 0 o48.1) 1 o48.2.1) 2 o48.2.2.1) 3 o48.2.2.2.1) 4 o48.2.2.2.2.1) 5 o48.2.2.2.2.2.1) 6 o48.2.2.2.2.2.2.1) 7 o48.2.2.2.2.2.2.2.1) 8 o48.2.2.2.2.2.2.2.2.1) 9 o48.2.2.2.2.2.2.2.2.2.1) 10 o48.2.2.2.2.2.2.2.2.2.2.1) 11 o48.2.2.2.2.2.2.2.2.2.2.2.1) 12 o48.2.2.2.2.2.2.2.2.2.2.2.2.1) 13 o48.2.2.2.2.2.2.2.2.2.2.2.2.2.1) 14 o48.2.2.2.2.2.2.2.2.2.2.2.2.2.2.1) 15 o48.2.2.2.2.2.2.2.2.2.2.2.2.2.2.2.1) 16 o48.2.2.2.2.2.2.2.2.2.2.2.2.2.2.2.2) (az_cV g au T ++ az_cH g ax aw o38.1 o38.2)) (As := [.int x1, .int x2, .int x3]) (rest := []) ⟨hx, hb, hml, hown, hts⟩ hl.1 (kX5_begin l g an V x1 x2 x3 o48 hc48) (cwV 3 hts gX6_reset_X5_begin rfl rfl rfl (by decide +kernel) ⟨(Nat.le_of_ble_eq_true rfl), (Nat.le_of_ble_eq_true rfl)⟩) rfl hK hP hD hS hA (az_pm (az_x ax an au :: (az_cV g an V).take 0) (az_cV g an V) ((az_cV g an V).drop 20 ++ (az_cV g au T ++ az_cH g ax aw o38.1 o38.2))) (az_pm (az_x ax an au :: (az_cV g an V).take 0) (az_cV g an (va_up (va_up (va_up (va_up (va_up (va_up (va_up (va_up (va_up (va_up (va_up (va_up (va_up (va_up (va_up (va_up (va_up V 0 o48.1) 1 o48.2.1) 2 o48.2.2.1) 3 o48.2.2.2.1) 4 o48.2.2.2.2.1) 5 o48.2.2.2.2.2.1) 6 o48.2.2.2.2.2.2.1) 7 o48.2.2.2.2.2.2.2.1) 8 o48.2.2.2.2.2.2.2.2.1) 9 o48.2.2.2.2.2.2.2.2.2.1) 10 o48.2.2.2.2.2.2.2.2.2.2.1) 11 o48.2.2.2.2.2.2.2.2.2.2.2.1) 12 o48.2.2.2.2.2.2.2.2.2.2.2.2.1) 13 o48.2.2.2.2.2.2.2.2.2.2.2.2.2.1) 14 o48.2.2.2.2.2.2.2.2.2.2.2.2.2.2.1) 15 o48.2.2.2.2.2.2.2.2.2.2.2.2.2.2.2.1) 16 o48.2.2.2.2.2.2.2.2.2.2.2.2.2.2.2.2)) ((az_cV g an V).drop 20 ++ (az_cV g au T ++ az_cH g ax aw o38.1 o38.2))).symm 0 rfl rfl rfl (Nat.le_of_ble_eq_true rfl) dX6_reset_48 ⟨(Nat.le_of_ble_eq_true rfl), (Nat.le_of_ble_eq_true rfl)⟩ rfl (fun H locs hP hD hS => ?_)
  have hP : va_P g.1 az_cl (az_w6 g ax an au (va_up (va_up (va_up (va_up (va_up (va_up (va_up (va_up (va_up (va_up (va_up (va_up (va_up (va_up (va_up (va_up (va_up V 0 o48.1) 1 o48.2.1) 2 o48.2.2.1) 3 o48.2.2.2.1) 4 o48.2.2.2.2.1) 5 o48.2.2.2.2.2.1) 6 o48.2.2.2.2.2.2.1) 7 o48.2.2.2.2.2.2.2.1) 8 o48.2.2.2.2.2.2.2.2.1) 9 o48.2.2.2.2.2.2.2.2.2.1) 10 o48.2.2.2.2.2.2.2.2.2.2.1) 11 o48.2.2.2.2.2.2.2.2.2.2.2.1) 12 o48.2.2.2.2.2.2.2.2.2.2.2.2.1) 13 o48.2.2.2.2.2.2.2.2.2.2.2.2.2.1) 14 o48.2.2.2.2.2.2.2.2.2.2.2.2.2.2.1) 15 o48.2.2.2.2.2.2.2.2.2.2.2.2.2.2.2.1) 16 o48.2.2.2.2.2.2.2.2.2.2.2.2.2.2.2.2) (az_cV g au T ++ az_cH g ax aw o38.1 o38.2)) _ := hP
  have hD : va_D A (az_w6 g ax an au (va_up (va_up (va_up (va_up (va_up (va_up (va_up (va_up (va_up (va_up (va_up (va_up (va_up (va_up (va_up (va_up (va_up V 0 o48.1) 1 o48.2.1) 2 o48.2.2.1) 3 o48.2.2.2.1) 4 o48.2.2.2.2.1) 5 o48.2.2.2.2.2.1) 6 o48.2.2.2.2.2.2.1) 7 o48.2.2.2.2.2.2.2.1) 8 o48.2.2.2.2.2.2.2.2.1) 9 o48.2.2.2.2.2.2.2.2.2.1) 10 o48.2.2.2.2.2.2.2.2.2.2.1) 11 o48.2.2.2.2.2.2.2.2.2.2.2.1) 12 o48.2.2.2.2.2.2.2.2.2.2.2.2.1) 13 o48.2.2.2.2.2.2.2.2.2.2.2.2.2.1) 14 o48.2.2.2.2.2.2.2.2.2.2.2.2.2.2.1) 15 o48.2.2.2.2.2.2.2.2.2.2.2.2.2.2.2.1) 16 o48.2.2.2.2.2.2.2.2.2.2.2.2.2.2.2.2) (az_cV g au T ++ az_cH g ax aw o38.1 o38.2)) := hD
  have hP : va_P g.1 az_cl (az_w6 g ax an au (va_up (va_up (va_up (va_up (va_up (va_up (va_up (va_up (va_up (va_up (va_up (va_up (va_up (va_up (va_up (va_up (va_up V 0 o48.1) 1 o48.2.1) 2 o48.2.2.1) 3 o48.2.2.2.1) 4 o48.2.2.2.2.1) 5 o48.2.2.2.2.2.1) 6 o48.2.2.2.2.2.2.1) 7 o48.2.2.2.2.2.2.2.1) 8 o48.2.2.2.2.2.2.2.2.1) 9 o48.2.2.2.2.2.2.2.2.2.1) 10 o48.2.2.2.2.2.2.2.2.2.2.1) 11 o48.2.2.2.2.2.2.2.2.2.2.2.1) 12 o48.2.2.2.2.2.2.2.2.2.2.2.2.1) 13 o48.2.2.2.2.2.2.2.2.2.2.2.2.2.1) 14 o48.2.2.2.2.2.2.2.2.2.2.2.2.2.2.1) 15 o48.2.2.2.2.2.2.2.2.2.2.2.2.2.2.2.1) 16 o48.2.2.2.2.2.2.2.2.2.2.2.2.2.2.2.2) (az_cV g au T ++ az_cH g ax aw o38.1 o38.2)) _ := hP
  have hD : va_D A (az_w6 g ax an au (va_up (va_up (va_up (va_up (va_up (va_up (va_up (va_up (va_up (va_up (va_up (va_up (va_up (va_up (va_up (va_up (va_up V 0 o48.1) 1 o48.2.1) 2 o48.2.2.1) 3 o48.2.2.2.1) 4 o48.2.2.2.2.1) 5 o48.2.2.2.2.2.1) 6 o48.2.2.2.2.2.2.1) 7 o48.2.2.2.2.2.2.2.1) 8 o48.2.2.2.2.2.2.2.2.1) 9 o48.2.2.2.2.2.2.2.2.2.1) 10 o48.2.2.2.2.2.2.2.2.2.2.1) 11 o48.2.2.2.2.2.2.2.2.2.2.2.1) 12 o48.2.2.2.2.2.2.2.2.2.2.2.2.1) 13 o48.2.2.2.2.2.2.2.2.2.2.2.2.2.1) 14 o48.2.2.2.2.2.2.2.2.2.2.2.2.2.2.1) 15 o48.2.2.2.2.2.2.2.2.2.2.2.2.2.2.2.1) 16 o48.2.2.2.2.2.2.2.2.2.2.2.2.2.2.2.2) (az_cV g au T ++ az_cH g ax aw o38.1 o38.2)) := hD
  rw [← Option.some.inj h]
  exact az_vretT hx hb hr hlocks hK hP hD hS dX6_reset_51 (Nat.le_of_ble_eq_true rfl) (Nat.le_of_ble_eq_true rfl)

def FX6_checkIndex (x0 : Int32) : Option (Nat) := if x0 = (0 : Int32) then (some 1) else (some (0))
theorem thno_0_306 : ∀ w ∈ (vx_at0 RX6 306 "java/lang/IndexOutOfBoundsException" ["java/lang/RuntimeException", "java/lang/Exception"]).filter (fun w => !goodWord w), w ∈ Cond.castable "java/lang/IndexOutOfBoundsException" "java/lang/IndexOutOfBoundsException" :: az_dl := by decide +kernel
theorem thgd_0_304_306 : ∀ w ∈ Cond.classLink RX6 304 "java/lang/IndexOutOfBoundsException" :: Cond.initialized "java/lang/IndexOutOfBoundsException" :: vx_at0 RX6 306 "java/lang/IndexOutOfBoundsException" ["java/lang/RuntimeException", "java/lang/Exception"], vx_ot w = true := by decide +kernel
set_option maxHeartbeats 4000000 in
set_option maxRecDepth 100000 in
theorem kX6_checkIndex (l : Launch) (hst : l.stackTraces = false) (g : az_G) (sa : Nat → Nat)  (x0 : Int32) (o : Nat) (h : FX6_checkIndex x0 = some o) : az_TV l yX6_checkIndex wsX6_checkIndex ({ frames := 6, cells := 1, slots := 6, locals := 100 } : Room) [.int x0] g sa ([]) o ([]) 1 := by
  refine az_bodyT (cc := cX6_checkIndex) (maxL := 1) (ret := none) (mc := 1) (ms := 6) (Qc := fun A => az_QTV g ([]) o A) (XC := fun A => az_XT g ([]) o A) (by decide +kernel) rfl (Nat.le_of_ble_eq_true rfl) ?_
  intro p e s m args below meth c A hx hb hr hts hown hml hlocks hex hcx hA hK hP hD hS ls hl
  have hl : lv_has ls 1 [(0, .int x0)] := hl
  unfold FX6_checkIndex at h
  refine lv_iload_n hx hb dX6_checkIndex_0 rfl (lv_at hl 0 rfl) ?_
  refine lv_if_ne (tgt := 12) hx hb dX6_checkIndex_1 (by decide) (fun c1 => ?_) (fun c1 => ?_)
  · replace h := az_neg c1 h
    have hP : va_P g.1 az_cl ([]) _ := hP
    have hD : va_D A ([]) := hD
    rw [← Option.some.inj h]
    exact az_vretT hx hb hr hlocks hK hP hD hS dX6_checkIndex_12 (Nat.le_of_ble_eq_true rfl) (Nat.le_of_ble_eq_true rfl)
  · replace h := az_pos c1 h
    have hP : va_P g.1 az_cl ([]) _ := hP
    have hD : va_D A ([]) := hD
    rw [← Option.some.inj h]
    exact az_throw0 (k := 1) (ws' := []) (by decide) rfl (by decide +kernel) hx hb hst hown (hts _ (List.mem_of_getElem? (i := 1) rfl)) (hts _ (List.mem_of_getElem? (i := 2) rfl)) hts (fun _ h => List.mem_cons_of_mem _ (List.mem_append_right _ h)) thno_0_306 thgd_0_304_306 hcx hK hP hD hS (hl.1.trans hml.symm) dX6_checkIndex_4 dX6_checkIndex_7 dX6_checkIndex_8 dX6_checkIndex_11 hex (Nat.le_of_ble_eq_true rfl) (Nat.le_of_ble_eq_true rfl) (Nat.le_of_ble_eq_true rfl) (Nat.le_of_ble_eq_true rfl) hlocks (Nat.le_of_ble_eq_true rfl) (Nat.le_of_ble_eq_true rfl)

def FX6_checkKey (x0 : Int32) : Option (Nat) := (FX6_isBetween x0 (0 : Int32) (23 : Int32)).bind (fun o4 => (FX6_checkIndex o4).bind (fun o7 => if o7 = 0 then (some (0)) else some o7))
set_option maxHeartbeats 4000000 in
set_option maxRecDepth 100000 in
theorem kX6_checkKey (l : Launch) (hst : l.stackTraces = false) (g : az_G) (sa : Nat → Nat)  (x0 : Int32) (o : Nat) (h : FX6_checkKey x0 = some o) : az_TV l yX6_checkKey wsX6_checkKey ({ frames := 7, cells := 1, slots := 6, locals := 120 } : Room) [.int x0] g sa ([]) o ([]) 1 := by
  refine az_bodyT (cc := cX6_checkKey) (maxL := 1) (ret := none) (mc := 1) (ms := 6) (Qc := fun A => az_QTV g ([]) o A) (XC := fun A => az_XT g ([]) o A) (by decide +kernel) rfl (Nat.le_of_ble_eq_true rfl) ?_
  intro p e s m args below meth c A hx hb hr hts hown hml hlocks hex hcx hA hK hP hD hS ls hl
  have hl : lv_has ls 1 [(0, .int x0)] := hl
  unfold FX6_checkKey at h
  refine lv_iload_n hx hb dX6_checkKey_0 rfl (lv_at hl 0 rfl) ?_
  refine lv_iconst (v := (0 : Int32)) hx hb dX6_checkKey_1 (by decide) ?_
  refine lv_bipush (v := (23 : Int32)) hx hb dX6_checkKey_2 (by decide) ?_
  obtain ⟨o4, hc4, h⟩ := az_bnd h
  refine az_callS0 (As := [.int x0, .int (0 : Int32), .int (23 : Int32)]) (rest := []) ⟨hx, hb, hml, hown, hts⟩ hl.1 (kX6_isBetween l g x0 (0 : Int32) (23 : Int32) o4 hc4) (va_cwS 3 hts gX6_checkKey_X6_isBetween rfl rfl rfl (by decide +kernel) ⟨(Nat.le_of_ble_eq_true rfl), (Nat.le_of_ble_eq_true rfl)⟩) rfl hK hP hS hA (Nat.le_of_ble_eq_true rfl) dX6_checkKey_4 ⟨(Nat.le_of_ble_eq_true rfl), (Nat.le_of_ble_eq_true rfl)⟩ rfl (fun H locs hP hS => ?_)
  obtain ⟨o7, hc7, h⟩ := az_bnd h
  refine az_callST (As := [.int o4]) (rest := []) ⟨hx, hb, hml, hown, hts⟩ hl.1 (kX6_checkIndex l hst g sa o4 o7 hc7) (va_cwS 1 hts gX6_checkKey_X6_checkIndex rfl rfl rfl (by decide +kernel) ⟨(Nat.le_of_ble_eq_true rfl), (Nat.le_of_ble_eq_true rfl)⟩) rfl hK hcx hP hS hA (Nat.le_of_ble_eq_true rfl) dX6_checkKey_7 ⟨(Nat.le_of_ble_eq_true rfl), (Nat.le_of_ble_eq_true rfl)⟩ rfl (fun n7 ce q9 H locs hP hS hce hcv hcl => ?_) (fun c7 H locs hP hS => ?_)
  · replace h := az_neg n7 h
    have hP : va_P g.1 az_cl ([]) _ := hP
    have hD : va_D A ([]) := hD
    rw [← Option.some.inj h]
    exact az_outT n7 hex hlocks hce hcv hcl hK hP hD hS (Nat.le_of_ble_eq_true rfl) (Nat.le_of_ble_eq_true rfl)
  replace h := az_pos c7 h
  have hP : va_P g.1 az_cl ([]) _ := hP
  have hD : va_D A ([]) := hD
  rw [← Option.some.inj h]
  exact az_vretT hx hb hr hlocks hK hP hD hS dX6_checkKey_10 (Nat.le_of_ble_eq_true rfl) (Nat.le_of_ble_eq_true rfl)

def FX6_checkState (x0 : Int32) : Option (Nat) := if x0 = (0 : Int32) then (some 3) else (some (0))
theorem thno_0_310 : ∀ w ∈ (vx_at0 RX6 310 "java/lang/IllegalStateException" ["java/lang/RuntimeException", "java/lang/Exception"]).filter (fun w => !goodWord w), w ∈ Cond.castable "java/lang/IllegalStateException" "java/lang/IllegalStateException" :: az_dl := by decide +kernel
theorem thgd_0_308_310 : ∀ w ∈ Cond.classLink RX6 308 "java/lang/IllegalStateException" :: Cond.initialized "java/lang/IllegalStateException" :: vx_at0 RX6 310 "java/lang/IllegalStateException" ["java/lang/RuntimeException", "java/lang/Exception"], vx_ot w = true := by decide +kernel
set_option maxHeartbeats 4000000 in
set_option maxRecDepth 100000 in
theorem kX6_checkState (l : Launch) (hst : l.stackTraces = false) (g : az_G) (sa : Nat → Nat)  (x0 : Int32) (o : Nat) (h : FX6_checkState x0 = some o) : az_TV l yX6_checkState wsX6_checkState ({ frames := 6, cells := 1, slots := 6, locals := 100 } : Room) [.int x0] g sa ([]) o ([]) 1 := by
  refine az_bodyT (cc := cX6_checkState) (maxL := 1) (ret := none) (mc := 1) (ms := 6) (Qc := fun A => az_QTV g ([]) o A) (XC := fun A => az_XT g ([]) o A) (by decide +kernel) rfl (Nat.le_of_ble_eq_true rfl) ?_
  intro p e s m args below meth c A hx hb hr hts hown hml hlocks hex hcx hA hK hP hD hS ls hl
  have hl : lv_has ls 1 [(0, .int x0)] := hl
  unfold FX6_checkState at h
  refine lv_iload_n hx hb dX6_checkState_0 rfl (lv_at hl 0 rfl) ?_
  refine lv_if_ne (tgt := 12) hx hb dX6_checkState_1 (by decide) (fun c1 => ?_) (fun c1 => ?_)
  · replace h := az_neg c1 h
    have hP : va_P g.1 az_cl ([]) _ := hP
    have hD : va_D A ([]) := hD
    rw [← Option.some.inj h]
    exact az_vretT hx hb hr hlocks hK hP hD hS dX6_checkState_12 (Nat.le_of_ble_eq_true rfl) (Nat.le_of_ble_eq_true rfl)
  · replace h := az_pos c1 h
    have hP : va_P g.1 az_cl ([]) _ := hP
    have hD : va_D A ([]) := hD
    rw [← Option.some.inj h]
    exact az_throw0 (k := 3) (ws' := []) (by decide) rfl (by decide +kernel) hx hb hst hown (hts _ (List.mem_of_getElem? (i := 1) rfl)) (hts _ (List.mem_of_getElem? (i := 2) rfl)) hts (fun _ h => List.mem_cons_of_mem _ (List.mem_append_right _ h)) thno_0_310 thgd_0_308_310 hcx hK hP hD hS (hl.1.trans hml.symm) dX6_checkState_4 dX6_checkState_7 dX6_checkState_8 dX6_checkState_11 hex (Nat.le_of_ble_eq_true rfl) (Nat.le_of_ble_eq_true rfl) (Nat.le_of_ble_eq_true rfl) (Nat.le_of_ble_eq_true rfl) hlocks (Nat.le_of_ble_eq_true rfl) (Nat.le_of_ble_eq_true rfl)

def FX6_write (V : az_St) (T : az_St) (S : Nat → az_St) (hs : Nat → Int32) (x1 : Int32) (x2 : Int32) : Option (Nat × Int32 × (Nat → az_St) × (Nat → Int32) × (Nat → Int32) × (Nat → Int32) × (Nat → Int32) × (Nat → Int32) × (Nat → Int32) × (Nat → Int32) × (Nat → Int32) × (Nat → Int32) × (Nat → Int32) × (Nat → Int32)) := (FX6_checkKey x1).bind (fun o1 => if o1 = 0 then ((FX5_roomForWrites V ).bind (fun o8 => if o8 ≤ (0 : Int32) then ((FX6_checkState (0 : Int32)).bind (fun o19 => if o19 = 0 then ((FX1_save S hs V).bind (fun o30 => (FX5_appendVersion V x1 x2).bind (fun o39 => some (0, o39.1, o30.1, o39.2.1, o39.2.2.1, o39.2.2.2.1, o39.2.2.2.2.1, o39.2.2.2.2.2.1, o39.2.2.2.2.2.2.1, o39.2.2.2.2.2.2.2.1, o39.2.2.2.2.2.2.2.2.1, o39.2.2.2.2.2.2.2.2.2.1, o39.2.2.2.2.2.2.2.2.2.2, o30.2)))) else some (o19, (0 : Int32), S, (V 0), (V 2), (V 3), (V 5), (V 6), (V 7), (V 8), (V 9), (V 15), (V 16), hs))) else ((FX6_checkState (1 : Int32)).bind (fun o19 => if o19 = 0 then ((FX1_save S hs V).bind (fun o30 => (FX5_appendVersion V x1 x2).bind (fun o39 => some (0, o39.1, o30.1, o39.2.1, o39.2.2.1, o39.2.2.2.1, o39.2.2.2.2.1, o39.2.2.2.2.2.1, o39.2.2.2.2.2.2.1, o39.2.2.2.2.2.2.2.1, o39.2.2.2.2.2.2.2.2.1, o39.2.2.2.2.2.2.2.2.2.1, o39.2.2.2.2.2.2.2.2.2.2, o30.2)))) else some (o19, (0 : Int32), S, (V 0), (V 2), (V 3), (V 5), (V 6), (V 7), (V 8), (V 9), (V 15), (V 16), hs))))) else some (o1, (0 : Int32), S, (V 0), (V 2), (V 3), (V 5), (V 6), (V 7), (V 8), (V 9), (V 15), (V 16), hs))
theorem inX6_write_RX6 : ∀ w ∈ wsX60, w ∈ wsX6_write := az_inr [149, 150, 151] (by decide +kernel)
set_option maxHeartbeats 4000000 in
set_option maxRecDepth 100000 in
theorem kX6_write (l : Launch) (hst : l.stackTraces = false) (g : az_G) (sa : Nat → Nat) (ax : Nat → Nat) (an : Nat → Nat) (au : Nat → Nat) (aw : Nat → Nat → Nat) (V : az_St) (T : az_St) (S : Nat → az_St) (hs : Nat → Int32) (x1 : Int32) (x2 : Int32) (o : Nat × Int32 × (Nat → az_St) × (Nat → Int32) × (Nat → Int32) × (Nat → Int32) × (Nat → Int32) × (Nat → Int32) × (Nat → Int32) × (Nat → Int32) × (Nat → Int32) × (Nat → Int32) × (Nat → Int32) × (Nat → Int32)) (h : FX6_write V T S hs x1 x2 = some o) : az_TI l yX6_write wsX6_write ({ frames := 8, cells := 2, slots := 12, locals := 164 } : Room) [.ref (ax 0), .int x1, .int x2] g sa (az_w6 g ax an au V (az_cV g au T ++ az_cH g ax aw S hs)) o.1 o.2.1 (az_w6 g ax an au (va_up (va_up (va_up (va_up (va_up (va_up (va_up (va_up (va_up (va_up V 0 o.2.2.2.1) 2 o.2.2.2.2.1) 3 o.2.2.2.2.2.1) 5 o.2.2.2.2.2.2.1) 6 o.2.2.2.2.2.2.2.1) 7 o.2.2.2.2.2.2.2.2.1) 8 o.2.2.2.2.2.2.2.2.2.1) 9 o.2.2.2.2.2.2.2.2.2.2.1) 15 o.2.2.2.2.2.2.2.2.2.2.2.1) 16 o.2.2.2.2.2.2.2.2.2.2.2.2.1) (az_cV g au T ++ az_cH g ax aw o.2.2.1 o.2.2.2.2.2.2.2.2.2.2.2.2.2)) 2 := by
  refine az_bodyT (cc := cX6_write) (maxL := 3) (ret := (some .int)) (mc := 2) (ms := 12) (Qc := fun A => az_QTI g (az_w6 g ax an au (va_up (va_up (va_up (va_up (va_up (va_up (va_up (va_up (va_up (va_up V 0 o.2.2.2.1) 2 o.2.2.2.2.1) 3 o.2.2.2.2.2.1) 5 o.2.2.2.2.2.2.1) 6 o.2.2.2.2.2.2.2.1) 7 o.2.2.2.2.2.2.2.2.1) 8 o.2.2.2.2.2.2.2.2.2.1) 9 o.2.2.2.2.2.2.2.2.2.2.1) 15 o.2.2.2.2.2.2.2.2.2.2.2.1) 16 o.2.2.2.2.2.2.2.2.2.2.2.2.1) (az_cV g au T ++ az_cH g ax aw o.2.2.1 o.2.2.2.2.2.2.2.2.2.2.2.2.2)) o.1 o.2.1 A) (XC := fun A => az_XT g (az_w6 g ax an au (va_up (va_up (va_up (va_up (va_up (va_up (va_up (va_up (va_up (va_up V 0 o.2.2.2.1) 2 o.2.2.2.2.1) 3 o.2.2.2.2.2.1) 5 o.2.2.2.2.2.2.1) 6 o.2.2.2.2.2.2.2.1) 7 o.2.2.2.2.2.2.2.2.1) 8 o.2.2.2.2.2.2.2.2.2.1) 9 o.2.2.2.2.2.2.2.2.2.2.1) 15 o.2.2.2.2.2.2.2.2.2.2.2.1) 16 o.2.2.2.2.2.2.2.2.2.2.2.2.1) (az_cV g au T ++ az_cH g ax aw o.2.2.1 o.2.2.2.2.2.2.2.2.2.2.2.2.2)) o.1 A) (by decide +kernel) rfl (Nat.le_of_ble_eq_true rfl) ?_
  intro p e s m args below meth c A hx hb hr hts hown hml hlocks hex hcx hA hK hP hD hS ls hl
  have hl : lv_has ls 3 [(0, .ref (ax 0)), (1, .int x1), (2, .int x2)] := hl
  unfold FX6_write at h
  refine lv_iload_n hx hb dX6_write_0 rfl (lv_at hl 1 rfl) ?_
  obtain ⟨o1, hc1, h⟩ := az_bnd h
  refine az_callST (As := [.int x1]) (rest := []) ⟨hx, hb, hml, hown, hts⟩ hl.1 (kX6_checkKey l hst g sa x1 o1 hc1) (va_cwS 1 hts gX6_write_X6_checkKey rfl rfl rfl (by decide +kernel) ⟨(Nat.le_of_ble_eq_true rfl), (Nat.le_of_ble_eq_true rfl)⟩) rfl hK hcx hP hS hA (Nat.le_of_ble_eq_true rfl) dX6_write_1 ⟨(Nat.le_of_ble_eq_true rfl), (Nat.le_of_ble_eq_true rfl)⟩ rfl (fun n1 ce q9 H locs hP hS hce hcv hcl => ?_) (fun c1 H locs hP hS => ?_)
  · replace h := az_neg n1 h
    have hP : va_P g.1 az_cl (az_w6 g ax an au (va_up (va_up (va_up (va_up (va_up (va_up (va_up (va_up (va_up (va_up V 0 (V 0)) 2 (V 2)) 3 (V 3)) 5 (V 5)) 6 (V 6)) 7 (V 7)) 8 (V 8)) 9 (V 9)) 15 (V 15)) 16 (V 16)) (az_cV g au T ++ az_cH g ax aw S hs)) _ := hP
    have hD : va_D A (az_w6 g ax an au (va_up (va_up (va_up (va_up (va_up (va_up (va_up (va_up (va_up (va_up V 0 (V 0)) 2 (V 2)) 3 (V 3)) 5 (V 5)) 6 (V 6)) 7 (V 7)) 8 (V 8)) 9 (V 9)) 15 (V 15)) 16 (V 16)) (az_cV g au T ++ az_cH g ax aw S hs)) := hD
    rw [← Option.some.inj h]
    exact az_outT n1 hex hlocks hce hcv hcl hK hP hD hS (Nat.le_of_ble_eq_true rfl) (Nat.le_of_ble_eq_true rfl)
  replace h := az_pos c1 h
  refine lv_aload_n hx hb dX6_write_4 rfl (lv_at hl 0 rfl) ?_
  refine va_get (D := g.1) (ci := 6) (v := .ref (an 0)) (C := RX6) (T := TX6) (N := 3) hx hb hts inX6_write_RX6 hown hK hP 0 rfl rfl 0 (Nat.le_of_ble_eq_true rfl) (hts _ (List.mem_of_getElem? (i := 1) rfl)) (fun _ h9 => h9) rfl dX6_write_5 ?_
  obtain ⟨o8, hc8, h⟩ := az_bnd h
  refine az_callPi (w2 := az_w6 g ax an au V (az_cV g au T ++ az_cH g ax aw S hs)) (As := []) (rest := []) ⟨hx, hb, hml, hown, hts⟩ hl.1 (kX5_roomForWrites l g an V  o8 hc8) (cwV 0 hts gX6_write_X5_roomForWrites rfl rfl rfl (by decide +kernel) ⟨(Nat.le_of_ble_eq_true rfl), (Nat.le_of_ble_eq_true rfl)⟩) rfl hK hP hD hS hA (az_pm (az_x ax an au :: (az_cV g an V).take 0) (az_cV g an V) ((az_cV g an V).drop 20 ++ (az_cV g au T ++ az_cH g ax aw S hs))) (az_pm (az_x ax an au :: (az_cV g an V).take 0) (az_cV g an V) ((az_cV g an V).drop 20 ++ (az_cV g au T ++ az_cH g ax aw S hs))).symm 0 rfl rfl rfl (Nat.le_of_ble_eq_true rfl) dX6_write_8 ⟨(Nat.le_of_ble_eq_true rfl), (Nat.le_of_ble_eq_true rfl)⟩ rfl (fun H locs hP hD hS => ?_)
  have hP : va_P g.1 az_cl (az_w6 g ax an au V (az_cV g au T ++ az_cH g ax aw S hs)) _ := hP
  have hD : va_D A (az_w6 g ax an au V (az_cV g au T ++ az_cH g ax aw S hs)) := hD
  refine lv_if_le (tgt := 18) hx hb dX6_write_11 (by decide) (fun c11 => ?_) (fun c11 => ?_)
  · replace h := az_pos c11 h
    refine lv_iconst (v := (0 : Int32)) hx hb dX6_write_18 (by decide) ?_
    obtain ⟨o19, hc19, h⟩ := az_bnd h
    refine az_callST (As := [.int (0 : Int32)]) (rest := []) ⟨hx, hb, hml, hown, hts⟩ hl.1 (kX6_checkState l hst g sa (0 : Int32) o19 hc19) (va_cwS 1 hts gX6_write_X6_checkState rfl rfl rfl (by decide +kernel) ⟨(Nat.le_of_ble_eq_true rfl), (Nat.le_of_ble_eq_true rfl)⟩) rfl hK hcx hP hS hA (Nat.le_of_ble_eq_true rfl) dX6_write_19 ⟨(Nat.le_of_ble_eq_true rfl), (Nat.le_of_ble_eq_true rfl)⟩ rfl (fun n19 ce q9 H locs hP hS hce hcv hcl => ?_) (fun c19 H locs hP hS => ?_)
    · replace h := az_neg n19 h
      have hP : va_P g.1 az_cl (az_w6 g ax an au (va_up (va_up (va_up (va_up (va_up (va_up (va_up (va_up (va_up (va_up V 0 (V 0)) 2 (V 2)) 3 (V 3)) 5 (V 5)) 6 (V 6)) 7 (V 7)) 8 (V 8)) 9 (V 9)) 15 (V 15)) 16 (V 16)) (az_cV g au T ++ az_cH g ax aw S hs)) _ := hP
      have hD : va_D A (az_w6 g ax an au (va_up (va_up (va_up (va_up (va_up (va_up (va_up (va_up (va_up (va_up V 0 (V 0)) 2 (V 2)) 3 (V 3)) 5 (V 5)) 6 (V 6)) 7 (V 7)) 8 (V 8)) 9 (V 9)) 15 (V 15)) 16 (V 16)) (az_cV g au T ++ az_cH g ax aw S hs)) := hD
      rw [← Option.some.inj h]
      exact az_outT n19 hex hlocks hce hcv hcl hK hP hD hS (Nat.le_of_ble_eq_true rfl) (Nat.le_of_ble_eq_true rfl)
    replace h := az_pos c19 h
    refine lv_aload_n hx hb dX6_write_22 rfl (lv_at hl 0 rfl) ?_
    refine va_get (D := g.1) (ci := 6) (v := .ref (ax 1)) (C := RX6) (T := TX6) (N := 3) hx hb hts inX6_write_RX6 hown hK hP 0 rfl rfl 2 (Nat.le_of_ble_eq_true rfl) (hts _ (List.mem_of_getElem? (i := 2) rfl)) (fun _ h9 => h9) rfl dX6_write_23 ?_
    refine lv_aload_n hx hb dX6_write_26 rfl (lv_at hl 0 rfl) ?_
    refine va_get (D := g.1) (ci := 6) (v := .ref (an 0)) (C := RX6) (T := TX6) (N := 3) hx hb hts inX6_write_RX6 hown hK hP 0 rfl rfl 0 (Nat.le_of_ble_eq_true rfl) (hts _ (List.mem_of_getElem? (i := 1) rfl)) (fun _ h9 => h9) rfl dX6_write_27 ?_
    obtain ⟨o30, hc30, h⟩ := az_bnd h
    refine az_callPv (w2 := az_w6 g ax an au V (az_cV g au T ++ az_cH g ax aw o30.1 o30.2)) (As := [.ref (an 0)]) (rest := []) ⟨hx, hb, hml, hown, hts⟩ hl.1 (kX1_save l g ax an aw S hs V o30 hc30) (cwV 1 hts gX6_write_X1_save rfl rfl rfl (by decide +kernel) ⟨(Nat.le_of_ble_eq_true rfl), (Nat.le_of_ble_eq_true rfl)⟩) rfl hK hP hD hS hA (az_pH (az_x ax an au) (az_cV g an V) (az_cV g au T) (az_cH g ax aw S hs)) (az_pH (az_x ax an au) (az_cV g an V) (az_cV g au T) (az_cH g ax aw o30.1 o30.2)).symm 0 rfl rfl rfl (Nat.le_of_ble_eq_true rfl) dX6_write_30 ⟨(Nat.le_of_ble_eq_true rfl), (Nat.le_of_ble_eq_true rfl)⟩ rfl (fun H locs hP hD hS => ?_)
    have hP : va_P g.1 az_cl (az_w6 g ax an au V (az_cV g au T ++ az_cH g ax aw o30.1 o30.2)) _ := hP
    have hD : va_D A (az_w6 g ax an au V (az_cV g au T ++ az_cH g ax aw o30.1 o30.2)) := hD
    refine lv_aload_n hx hb dX6_write_33 rfl (lv_at hl 0 rfl) ?_
    refine va_get (D := g.1) (ci := 6) (v := .ref (an 0)) (C := RX6) (T := TX6) (N := 3) hx hb hts inX6_write_RX6 hown hK hP 0 rfl rfl 0 (Nat.le_of_ble_eq_true rfl) (hts _ (List.mem_of_getElem? (i := 1) rfl)) (fun _ h9 => h9) rfl dX6_write_34 ?_
    refine lv_iload_n hx hb dX6_write_37 rfl (lv_at hl 1 rfl) ?_
    refine lv_iload_n hx hb dX6_write_38 rfl (lv_at hl 2 rfl) ?_
    obtain ⟨o39, hc39, h⟩ := az_bnd h
    refine az_callPi (w2 := az_w6 g ax an au (va_up (va_up (va_up (va_up (va_up (va_up (va_up (va_up (va_up (va_up V 0 o39.2.1) 2 o39.2.2.1) 3 o39.2.2.2.1) 5 o39.2.2.2.2.1) 6 o39.2.2.2.2.2.1) 7 o39.2.2.2.2.2.2.1) 8 o39.2.2.2.2.2.2.2.1) 9 o39.2.2.2.2.2.2.2.2.1) 15 o39.2.2.2.2.2.2.2.2.2.1) 16 o39.2.2.2.2.2.2.2.2.2.2) (az_cV g au T ++ az_cH g ax aw o30.1 o30.2)) (As := [.int x1, .int x2]) (rest := []) ⟨hx, hb, hml, hown, hts⟩ hl.1 (kX5_appendVersion l g an V x1 x2 o39 hc39) (cwV 2 hts gX6_write_X5_appendVersion rfl rfl rfl (by decide +kernel) ⟨(Nat.le_of_ble_eq_true rfl), (Nat.le_of_ble_eq_true rfl)⟩) rfl hK hP hD hS hA (az_pm (az_x ax an au :: (az_cV g an V).take 0) (az_cV g an V) ((az_cV g an V).drop 20 ++ (az_cV g au T ++ az_cH g ax aw o30.1 o30.2))) (az_pm (az_x ax an au :: (az_cV g an V).take 0) (az_cV g an (va_up (va_up (va_up (va_up (va_up (va_up (va_up (va_up (va_up (va_up V 0 o39.2.1) 2 o39.2.2.1) 3 o39.2.2.2.1) 5 o39.2.2.2.2.1) 6 o39.2.2.2.2.2.1) 7 o39.2.2.2.2.2.2.1) 8 o39.2.2.2.2.2.2.2.1) 9 o39.2.2.2.2.2.2.2.2.1) 15 o39.2.2.2.2.2.2.2.2.2.1) 16 o39.2.2.2.2.2.2.2.2.2.2)) ((az_cV g an V).drop 20 ++ (az_cV g au T ++ az_cH g ax aw o30.1 o30.2))).symm 0 rfl rfl rfl (Nat.le_of_ble_eq_true rfl) dX6_write_39 ⟨(Nat.le_of_ble_eq_true rfl), (Nat.le_of_ble_eq_true rfl)⟩ rfl (fun H locs hP hD hS => ?_)
    have hP : va_P g.1 az_cl (az_w6 g ax an au (va_up (va_up (va_up (va_up (va_up (va_up (va_up (va_up (va_up (va_up V 0 o39.2.1) 2 o39.2.2.1) 3 o39.2.2.2.1) 5 o39.2.2.2.2.1) 6 o39.2.2.2.2.2.1) 7 o39.2.2.2.2.2.2.1) 8 o39.2.2.2.2.2.2.2.1) 9 o39.2.2.2.2.2.2.2.2.1) 15 o39.2.2.2.2.2.2.2.2.2.1) 16 o39.2.2.2.2.2.2.2.2.2.2) (az_cV g au T ++ az_cH g ax aw o30.1 o30.2)) _ := hP
    have hD : va_D A (az_w6 g ax an au (va_up (va_up (va_up (va_up (va_up (va_up (va_up (va_up (va_up (va_up V 0 o39.2.1) 2 o39.2.2.1) 3 o39.2.2.2.1) 5 o39.2.2.2.2.1) 6 o39.2.2.2.2.2.1) 7 o39.2.2.2.2.2.2.1) 8 o39.2.2.2.2.2.2.2.1) 9 o39.2.2.2.2.2.2.2.2.1) 15 o39.2.2.2.2.2.2.2.2.2.1) 16 o39.2.2.2.2.2.2.2.2.2.2) (az_cV g au T ++ az_cH g ax aw o30.1 o30.2)) := hD
    have hP : va_P g.1 az_cl (az_w6 g ax an au (va_up (va_up (va_up (va_up (va_up (va_up (va_up (va_up (va_up (va_up V 0 o39.2.1) 2 o39.2.2.1) 3 o39.2.2.2.1) 5 o39.2.2.2.2.1) 6 o39.2.2.2.2.2.1) 7 o39.2.2.2.2.2.2.1) 8 o39.2.2.2.2.2.2.2.1) 9 o39.2.2.2.2.2.2.2.2.1) 15 o39.2.2.2.2.2.2.2.2.2.1) 16 o39.2.2.2.2.2.2.2.2.2.2) (az_cV g au T ++ az_cH g ax aw o30.1 o30.2)) _ := hP
    have hD : va_D A (az_w6 g ax an au (va_up (va_up (va_up (va_up (va_up (va_up (va_up (va_up (va_up (va_up V 0 o39.2.1) 2 o39.2.2.1) 3 o39.2.2.2.1) 5 o39.2.2.2.2.1) 6 o39.2.2.2.2.2.1) 7 o39.2.2.2.2.2.2.1) 8 o39.2.2.2.2.2.2.2.1) 9 o39.2.2.2.2.2.2.2.2.1) 15 o39.2.2.2.2.2.2.2.2.2.1) 16 o39.2.2.2.2.2.2.2.2.2.2) (az_cV g au T ++ az_cH g ax aw o30.1 o30.2)) := hD
    rw [← Option.some.inj h]
    exact az_iretT hx hb hr hlocks hK hP hD hS dX6_write_42 (Nat.le_of_ble_eq_true rfl) (Nat.le_of_ble_eq_true rfl)
  · replace h := az_neg c11 h
    refine lv_iconst (v := (1 : Int32)) hx hb dX6_write_14 (by decide) ?_
    refine lv_goto (tgt := 19) hx hb dX6_write_15 (by decide) ?_
    obtain ⟨o19, hc19, h⟩ := az_bnd h
    refine az_callST (As := [.int (1 : Int32)]) (rest := []) ⟨hx, hb, hml, hown, hts⟩ hl.1 (kX6_checkState l hst g sa (1 : Int32) o19 hc19) (va_cwS 1 hts gX6_write_X6_checkState rfl rfl rfl (by decide +kernel) ⟨(Nat.le_of_ble_eq_true rfl), (Nat.le_of_ble_eq_true rfl)⟩) rfl hK hcx hP hS hA (Nat.le_of_ble_eq_true rfl) dX6_write_19 ⟨(Nat.le_of_ble_eq_true rfl), (Nat.le_of_ble_eq_true rfl)⟩ rfl (fun n19 ce q9 H locs hP hS hce hcv hcl => ?_) (fun c19 H locs hP hS => ?_)
    · replace h := az_neg n19 h
      have hP : va_P g.1 az_cl (az_w6 g ax an au (va_up (va_up (va_up (va_up (va_up (va_up (va_up (va_up (va_up (va_up V 0 (V 0)) 2 (V 2)) 3 (V 3)) 5 (V 5)) 6 (V 6)) 7 (V 7)) 8 (V 8)) 9 (V 9)) 15 (V 15)) 16 (V 16)) (az_cV g au T ++ az_cH g ax aw S hs)) _ := hP
      have hD : va_D A (az_w6 g ax an au (va_up (va_up (va_up (va_up (va_up (va_up (va_up (va_up (va_up (va_up V 0 (V 0)) 2 (V 2)) 3 (V 3)) 5 (V 5)) 6 (V 6)) 7 (V 7)) 8 (V 8)) 9 (V 9)) 15 (V 15)) 16 (V 16)) (az_cV g au T ++ az_cH g ax aw S hs)) := hD
      rw [← Option.some.inj h]
      exact az_outT n19 hex hlocks hce hcv hcl hK hP hD hS (Nat.le_of_ble_eq_true rfl) (Nat.le_of_ble_eq_true rfl)
    replace h := az_pos c19 h
    refine lv_aload_n hx hb dX6_write_22 rfl (lv_at hl 0 rfl) ?_
    refine va_get (D := g.1) (ci := 6) (v := .ref (ax 1)) (C := RX6) (T := TX6) (N := 3) hx hb hts inX6_write_RX6 hown hK hP 0 rfl rfl 2 (Nat.le_of_ble_eq_true rfl) (hts _ (List.mem_of_getElem? (i := 2) rfl)) (fun _ h9 => h9) rfl dX6_write_23 ?_
    refine lv_aload_n hx hb dX6_write_26 rfl (lv_at hl 0 rfl) ?_
    refine va_get (D := g.1) (ci := 6) (v := .ref (an 0)) (C := RX6) (T := TX6) (N := 3) hx hb hts inX6_write_RX6 hown hK hP 0 rfl rfl 0 (Nat.le_of_ble_eq_true rfl) (hts _ (List.mem_of_getElem? (i := 1) rfl)) (fun _ h9 => h9) rfl dX6_write_27 ?_
    obtain ⟨o30, hc30, h⟩ := az_bnd h
    refine az_callPv (w2 := az_w6 g ax an au V (az_cV g au T ++ az_cH g ax aw o30.1 o30.2)) (As := [.ref (an 0)]) (rest := []) ⟨hx, hb, hml, hown, hts⟩ hl.1 (kX1_save l g ax an aw S hs V o30 hc30) (cwV 1 hts gX6_write_X1_save rfl rfl rfl (by decide +kernel) ⟨(Nat.le_of_ble_eq_true rfl), (Nat.le_of_ble_eq_true rfl)⟩) rfl hK hP hD hS hA (az_pH (az_x ax an au) (az_cV g an V) (az_cV g au T) (az_cH g ax aw S hs)) (az_pH (az_x ax an au) (az_cV g an V) (az_cV g au T) (az_cH g ax aw o30.1 o30.2)).symm 0 rfl rfl rfl (Nat.le_of_ble_eq_true rfl) dX6_write_30 ⟨(Nat.le_of_ble_eq_true rfl), (Nat.le_of_ble_eq_true rfl)⟩ rfl (fun H locs hP hD hS => ?_)
    have hP : va_P g.1 az_cl (az_w6 g ax an au V (az_cV g au T ++ az_cH g ax aw o30.1 o30.2)) _ := hP
    have hD : va_D A (az_w6 g ax an au V (az_cV g au T ++ az_cH g ax aw o30.1 o30.2)) := hD
    refine lv_aload_n hx hb dX6_write_33 rfl (lv_at hl 0 rfl) ?_
    refine va_get (D := g.1) (ci := 6) (v := .ref (an 0)) (C := RX6) (T := TX6) (N := 3) hx hb hts inX6_write_RX6 hown hK hP 0 rfl rfl 0 (Nat.le_of_ble_eq_true rfl) (hts _ (List.mem_of_getElem? (i := 1) rfl)) (fun _ h9 => h9) rfl dX6_write_34 ?_
    refine lv_iload_n hx hb dX6_write_37 rfl (lv_at hl 1 rfl) ?_
    refine lv_iload_n hx hb dX6_write_38 rfl (lv_at hl 2 rfl) ?_
    obtain ⟨o39, hc39, h⟩ := az_bnd h
    refine az_callPi (w2 := az_w6 g ax an au (va_up (va_up (va_up (va_up (va_up (va_up (va_up (va_up (va_up (va_up V 0 o39.2.1) 2 o39.2.2.1) 3 o39.2.2.2.1) 5 o39.2.2.2.2.1) 6 o39.2.2.2.2.2.1) 7 o39.2.2.2.2.2.2.1) 8 o39.2.2.2.2.2.2.2.1) 9 o39.2.2.2.2.2.2.2.2.1) 15 o39.2.2.2.2.2.2.2.2.2.1) 16 o39.2.2.2.2.2.2.2.2.2.2) (az_cV g au T ++ az_cH g ax aw o30.1 o30.2)) (As := [.int x1, .int x2]) (rest := []) ⟨hx, hb, hml, hown, hts⟩ hl.1 (kX5_appendVersion l g an V x1 x2 o39 hc39) (cwV 2 hts gX6_write_X5_appendVersion rfl rfl rfl (by decide +kernel) ⟨(Nat.le_of_ble_eq_true rfl), (Nat.le_of_ble_eq_true rfl)⟩) rfl hK hP hD hS hA (az_pm (az_x ax an au :: (az_cV g an V).take 0) (az_cV g an V) ((az_cV g an V).drop 20 ++ (az_cV g au T ++ az_cH g ax aw o30.1 o30.2))) (az_pm (az_x ax an au :: (az_cV g an V).take 0) (az_cV g an (va_up (va_up (va_up (va_up (va_up (va_up (va_up (va_up (va_up (va_up V 0 o39.2.1) 2 o39.2.2.1) 3 o39.2.2.2.1) 5 o39.2.2.2.2.1) 6 o39.2.2.2.2.2.1) 7 o39.2.2.2.2.2.2.1) 8 o39.2.2.2.2.2.2.2.1) 9 o39.2.2.2.2.2.2.2.2.1) 15 o39.2.2.2.2.2.2.2.2.2.1) 16 o39.2.2.2.2.2.2.2.2.2.2)) ((az_cV g an V).drop 20 ++ (az_cV g au T ++ az_cH g ax aw o30.1 o30.2))).symm 0 rfl rfl rfl (Nat.le_of_ble_eq_true rfl) dX6_write_39 ⟨(Nat.le_of_ble_eq_true rfl), (Nat.le_of_ble_eq_true rfl)⟩ rfl (fun H locs hP hD hS => ?_)
    have hP : va_P g.1 az_cl (az_w6 g ax an au (va_up (va_up (va_up (va_up (va_up (va_up (va_up (va_up (va_up (va_up V 0 o39.2.1) 2 o39.2.2.1) 3 o39.2.2.2.1) 5 o39.2.2.2.2.1) 6 o39.2.2.2.2.2.1) 7 o39.2.2.2.2.2.2.1) 8 o39.2.2.2.2.2.2.2.1) 9 o39.2.2.2.2.2.2.2.2.1) 15 o39.2.2.2.2.2.2.2.2.2.1) 16 o39.2.2.2.2.2.2.2.2.2.2) (az_cV g au T ++ az_cH g ax aw o30.1 o30.2)) _ := hP
    have hD : va_D A (az_w6 g ax an au (va_up (va_up (va_up (va_up (va_up (va_up (va_up (va_up (va_up (va_up V 0 o39.2.1) 2 o39.2.2.1) 3 o39.2.2.2.1) 5 o39.2.2.2.2.1) 6 o39.2.2.2.2.2.1) 7 o39.2.2.2.2.2.2.1) 8 o39.2.2.2.2.2.2.2.1) 9 o39.2.2.2.2.2.2.2.2.1) 15 o39.2.2.2.2.2.2.2.2.2.1) 16 o39.2.2.2.2.2.2.2.2.2.2) (az_cV g au T ++ az_cH g ax aw o30.1 o30.2)) := hD
    have hP : va_P g.1 az_cl (az_w6 g ax an au (va_up (va_up (va_up (va_up (va_up (va_up (va_up (va_up (va_up (va_up V 0 o39.2.1) 2 o39.2.2.1) 3 o39.2.2.2.1) 5 o39.2.2.2.2.1) 6 o39.2.2.2.2.2.1) 7 o39.2.2.2.2.2.2.1) 8 o39.2.2.2.2.2.2.2.1) 9 o39.2.2.2.2.2.2.2.2.1) 15 o39.2.2.2.2.2.2.2.2.2.1) 16 o39.2.2.2.2.2.2.2.2.2.2) (az_cV g au T ++ az_cH g ax aw o30.1 o30.2)) _ := hP
    have hD : va_D A (az_w6 g ax an au (va_up (va_up (va_up (va_up (va_up (va_up (va_up (va_up (va_up (va_up V 0 o39.2.1) 2 o39.2.2.1) 3 o39.2.2.2.1) 5 o39.2.2.2.2.1) 6 o39.2.2.2.2.2.1) 7 o39.2.2.2.2.2.2.1) 8 o39.2.2.2.2.2.2.2.1) 9 o39.2.2.2.2.2.2.2.2.1) 15 o39.2.2.2.2.2.2.2.2.2.1) 16 o39.2.2.2.2.2.2.2.2.2.2) (az_cV g au T ++ az_cH g ax aw o30.1 o30.2)) := hD
    rw [← Option.some.inj h]
    exact az_iretT hx hb hr hlocks hK hP hD hS dX6_write_42 (Nat.le_of_ble_eq_true rfl) (Nat.le_of_ble_eq_true rfl)

def FX6_checkElement (x0 : Int32) : Option (Nat) := if x0 = (0 : Int32) then (some 4) else (some (0))
theorem thno_0_313 : ∀ w ∈ (vx_at0 RX6 313 "java/util/NoSuchElementException" ["java/lang/RuntimeException", "java/lang/Exception"]).filter (fun w => !goodWord w), w ∈ Cond.castable "java/util/NoSuchElementException" "java/util/NoSuchElementException" :: az_dl := by decide +kernel
theorem thgd_0_311_313 : ∀ w ∈ Cond.classLink RX6 311 "java/util/NoSuchElementException" :: Cond.initialized "java/util/NoSuchElementException" :: vx_at0 RX6 313 "java/util/NoSuchElementException" ["java/lang/RuntimeException", "java/lang/Exception"], vx_ot w = true := by decide +kernel
set_option maxHeartbeats 4000000 in
set_option maxRecDepth 100000 in
theorem kX6_checkElement (l : Launch) (hst : l.stackTraces = false) (g : az_G) (sa : Nat → Nat)  (x0 : Int32) (o : Nat) (h : FX6_checkElement x0 = some o) : az_TV l yX6_checkElement wsX6_checkElement ({ frames := 6, cells := 1, slots := 6, locals := 100 } : Room) [.int x0] g sa ([]) o ([]) 1 := by
  refine az_bodyT (cc := cX6_checkElement) (maxL := 1) (ret := none) (mc := 1) (ms := 6) (Qc := fun A => az_QTV g ([]) o A) (XC := fun A => az_XT g ([]) o A) (by decide +kernel) rfl (Nat.le_of_ble_eq_true rfl) ?_
  intro p e s m args below meth c A hx hb hr hts hown hml hlocks hex hcx hA hK hP hD hS ls hl
  have hl : lv_has ls 1 [(0, .int x0)] := hl
  unfold FX6_checkElement at h
  refine lv_iload_n hx hb dX6_checkElement_0 rfl (lv_at hl 0 rfl) ?_
  refine lv_if_ne (tgt := 12) hx hb dX6_checkElement_1 (by decide) (fun c1 => ?_) (fun c1 => ?_)
  · replace h := az_neg c1 h
    have hP : va_P g.1 az_cl ([]) _ := hP
    have hD : va_D A ([]) := hD
    rw [← Option.some.inj h]
    exact az_vretT hx hb hr hlocks hK hP hD hS dX6_checkElement_12 (Nat.le_of_ble_eq_true rfl) (Nat.le_of_ble_eq_true rfl)
  · replace h := az_pos c1 h
    have hP : va_P g.1 az_cl ([]) _ := hP
    have hD : va_D A ([]) := hD
    rw [← Option.some.inj h]
    exact az_throw0 (k := 4) (ws' := []) (by decide) rfl (by decide +kernel) hx hb hst hown (hts _ (List.mem_of_getElem? (i := 1) rfl)) (hts _ (List.mem_of_getElem? (i := 2) rfl)) hts (fun _ h => List.mem_cons_of_mem _ (List.mem_append_right _ h)) thno_0_313 thgd_0_311_313 hcx hK hP hD hS (hl.1.trans hml.symm) dX6_checkElement_4 dX6_checkElement_7 dX6_checkElement_8 dX6_checkElement_11 hex (Nat.le_of_ble_eq_true rfl) (Nat.le_of_ble_eq_true rfl) (Nat.le_of_ble_eq_true rfl) (Nat.le_of_ble_eq_true rfl) hlocks (Nat.le_of_ble_eq_true rfl) (Nat.le_of_ble_eq_true rfl)

def FX6_delete (V : az_St) (T : az_St) (S : Nat → az_St) (hs : Nat → Int32) (x1 : Int32) : Option (Nat × Int32 × (Nat → az_St) × (Nat → Int32) × (Nat → Int32) × (Nat → Int32) × (Nat → Int32)) := (FX6_checkKey x1).bind (fun o1 => if o1 = 0 then (if az_in x1 24 = true then if (V 15) x1.toNatClampNeg = (-1 : Int32) then ((FX6_checkElement (0 : Int32)).bind (fun o22 => if o22 = 0 then ((FX1_save S hs V).bind (fun o33 => (FX5_dropLive V x1).bind (fun o41 => some (0, o41.1, o33.1, o41.2.1, o41.2.2.1, o41.2.2.2, o33.2)))) else some (o22, (0 : Int32), S, (V 5), (V 9), (V 15), hs))) else ((FX6_checkElement (1 : Int32)).bind (fun o22 => if o22 = 0 then ((FX1_save S hs V).bind (fun o33 => (FX5_dropLive V x1).bind (fun o41 => some (0, o41.1, o33.1, o41.2.1, o41.2.2.1, o41.2.2.2, o33.2)))) else some (o22, (0 : Int32), S, (V 5), (V 9), (V 15), hs))) else none) else some (o1, (0 : Int32), S, (V 5), (V 9), (V 15), hs))
theorem inX6_delete_RX5 : ∀ w ∈ wsX50, w ∈ wsX6_delete := az_inr [121, 122, 123, 124, 125, 126, 127, 128, 129, 130, 131] (by decide +kernel)
theorem inX6_delete_RX6 : ∀ w ∈ wsX60, w ∈ wsX6_delete := az_inr [118, 119, 120] (by decide +kernel)
set_option maxHeartbeats 4000000 in
set_option maxRecDepth 100000 in
theorem kX6_delete (l : Launch) (hst : l.stackTraces = false) (g : az_G) (sa : Nat → Nat) (ax : Nat → Nat) (an : Nat → Nat) (au : Nat → Nat) (aw : Nat → Nat → Nat) (V : az_St) (T : az_St) (S : Nat → az_St) (hs : Nat → Int32) (x1 : Int32) (o : Nat × Int32 × (Nat → az_St) × (Nat → Int32) × (Nat → Int32) × (Nat → Int32) × (Nat → Int32)) (h : FX6_delete V T S hs x1 = some o) : az_TI l yX6_delete wsX6_delete ({ frames := 8, cells := 2, slots := 12, locals := 164 } : Room) [.ref (ax 0), .int x1] g sa (az_w6 g ax an au V (az_cV g au T ++ az_cH g ax aw S hs)) o.1 o.2.1 (az_w6 g ax an au (va_up (va_up (va_up V 5 o.2.2.2.1) 9 o.2.2.2.2.1) 15 o.2.2.2.2.2.1) (az_cV g au T ++ az_cH g ax aw o.2.2.1 o.2.2.2.2.2.2)) 2 := by
  refine az_bodyT (cc := cX6_delete) (maxL := 2) (ret := (some .int)) (mc := 2) (ms := 12) (Qc := fun A => az_QTI g (az_w6 g ax an au (va_up (va_up (va_up V 5 o.2.2.2.1) 9 o.2.2.2.2.1) 15 o.2.2.2.2.2.1) (az_cV g au T ++ az_cH g ax aw o.2.2.1 o.2.2.2.2.2.2)) o.1 o.2.1 A) (XC := fun A => az_XT g (az_w6 g ax an au (va_up (va_up (va_up V 5 o.2.2.2.1) 9 o.2.2.2.2.1) 15 o.2.2.2.2.2.1) (az_cV g au T ++ az_cH g ax aw o.2.2.1 o.2.2.2.2.2.2)) o.1 A) (by decide +kernel) rfl (Nat.le_of_ble_eq_true rfl) ?_
  intro p e s m args below meth c A hx hb hr hts hown hml hlocks hex hcx hA hK hP hD hS ls hl
  have hl : lv_has ls 2 [(0, .ref (ax 0)), (1, .int x1)] := hl
  unfold FX6_delete at h
  refine lv_iload_n hx hb dX6_delete_0 rfl (lv_at hl 1 rfl) ?_
  obtain ⟨o1, hc1, h⟩ := az_bnd h
  refine az_callST (As := [.int x1]) (rest := []) ⟨hx, hb, hml, hown, hts⟩ hl.1 (kX6_checkKey l hst g sa x1 o1 hc1) (va_cwS 1 hts gX6_delete_X6_checkKey rfl rfl rfl (by decide +kernel) ⟨(Nat.le_of_ble_eq_true rfl), (Nat.le_of_ble_eq_true rfl)⟩) rfl hK hcx hP hS hA (Nat.le_of_ble_eq_true rfl) dX6_delete_1 ⟨(Nat.le_of_ble_eq_true rfl), (Nat.le_of_ble_eq_true rfl)⟩ rfl (fun n1 ce q9 H locs hP hS hce hcv hcl => ?_) (fun c1 H locs hP hS => ?_)
  · replace h := az_neg n1 h
    have hP : va_P g.1 az_cl (az_w6 g ax an au (va_up (va_up (va_up V 5 (V 5)) 9 (V 9)) 15 (V 15)) (az_cV g au T ++ az_cH g ax aw S hs)) _ := hP
    have hD : va_D A (az_w6 g ax an au (va_up (va_up (va_up V 5 (V 5)) 9 (V 9)) 15 (V 15)) (az_cV g au T ++ az_cH g ax aw S hs)) := hD
    rw [← Option.some.inj h]
    exact az_outT n1 hex hlocks hce hcv hcl hK hP hD hS (Nat.le_of_ble_eq_true rfl) (Nat.le_of_ble_eq_true rfl)
  replace h := az_pos c1 h
  refine lv_aload_n hx hb dX6_delete_4 rfl (lv_at hl 0 rfl) ?_
  refine va_get (D := g.1) (ci := 6) (v := .ref (an 0)) (C := RX6) (T := TX6) (N := 3) hx hb hts inX6_delete_RX6 hown hK hP 0 rfl rfl 0 (Nat.le_of_ble_eq_true rfl) (hts _ (List.mem_of_getElem? (i := 1) rfl)) (fun _ h9 => h9) rfl dX6_delete_5 ?_
  refine va_get (D := g.1) (ci := 5) (v := .ref (an 19)) (C := RX5) (T := TX5) (N := 11) hx hb hts inX6_delete_RX5 hown hK hP 1 rfl rfl 4 (Nat.le_of_ble_eq_true rfl) (hts _ (List.mem_of_getElem? (i := 2) rfl)) (fun _ h9 => h9) rfl dX6_delete_8 ?_
  refine lv_iload_n hx hb dX6_delete_11 rfl (lv_at hl 1 rfl) ?_
  obtain ⟨i12, h⟩ := az_ite h
  refine va_iald (D := g.1) (f := (V 15)) hx hb hK hP 20 0 rfl rfl (az_vin i12) dX6_delete_12 ?_
  refine lv_iconst (v := (-1 : Int32)) hx hb dX6_delete_13 (by decide) ?_
  refine lv_icmp_eq (tgt := 21) hx hb dX6_delete_14 (by decide) (fun c14 => ?_) (fun c14 => ?_)
  · replace h := az_pos c14 h
    refine lv_iconst (v := (0 : Int32)) hx hb dX6_delete_21 (by decide) ?_
    obtain ⟨o22, hc22, h⟩ := az_bnd h
    refine az_callST (As := [.int (0 : Int32)]) (rest := []) ⟨hx, hb, hml, hown, hts⟩ hl.1 (kX6_checkElement l hst g sa (0 : Int32) o22 hc22) (va_cwS 1 hts gX6_delete_X6_checkElement rfl rfl rfl (by decide +kernel) ⟨(Nat.le_of_ble_eq_true rfl), (Nat.le_of_ble_eq_true rfl)⟩) rfl hK hcx hP hS hA (Nat.le_of_ble_eq_true rfl) dX6_delete_22 ⟨(Nat.le_of_ble_eq_true rfl), (Nat.le_of_ble_eq_true rfl)⟩ rfl (fun n22 ce q9 H locs hP hS hce hcv hcl => ?_) (fun c22 H locs hP hS => ?_)
    · replace h := az_neg n22 h
      have hP : va_P g.1 az_cl (az_w6 g ax an au (va_up (va_up (va_up V 5 (V 5)) 9 (V 9)) 15 (V 15)) (az_cV g au T ++ az_cH g ax aw S hs)) _ := hP
      have hD : va_D A (az_w6 g ax an au (va_up (va_up (va_up V 5 (V 5)) 9 (V 9)) 15 (V 15)) (az_cV g au T ++ az_cH g ax aw S hs)) := hD
      rw [← Option.some.inj h]
      exact az_outT n22 hex hlocks hce hcv hcl hK hP hD hS (Nat.le_of_ble_eq_true rfl) (Nat.le_of_ble_eq_true rfl)
    replace h := az_pos c22 h
    refine lv_aload_n hx hb dX6_delete_25 rfl (lv_at hl 0 rfl) ?_
    refine va_get (D := g.1) (ci := 6) (v := .ref (ax 1)) (C := RX6) (T := TX6) (N := 3) hx hb hts inX6_delete_RX6 hown hK hP 0 rfl rfl 2 (Nat.le_of_ble_eq_true rfl) (hts _ (List.mem_of_getElem? (i := 3) rfl)) (fun _ h9 => h9) rfl dX6_delete_26 ?_
    refine lv_aload_n hx hb dX6_delete_29 rfl (lv_at hl 0 rfl) ?_
    refine va_get (D := g.1) (ci := 6) (v := .ref (an 0)) (C := RX6) (T := TX6) (N := 3) hx hb hts inX6_delete_RX6 hown hK hP 0 rfl rfl 0 (Nat.le_of_ble_eq_true rfl) (hts _ (List.mem_of_getElem? (i := 1) rfl)) (fun _ h9 => h9) rfl dX6_delete_30 ?_
    obtain ⟨o33, hc33, h⟩ := az_bnd h
    refine az_callPv (w2 := az_w6 g ax an au V (az_cV g au T ++ az_cH g ax aw o33.1 o33.2)) (As := [.ref (an 0)]) (rest := []) ⟨hx, hb, hml, hown, hts⟩ hl.1 (kX1_save l g ax an aw S hs V o33 hc33) (cwV 1 hts gX6_delete_X1_save rfl rfl rfl (by decide +kernel) ⟨(Nat.le_of_ble_eq_true rfl), (Nat.le_of_ble_eq_true rfl)⟩) rfl hK hP hD hS hA (az_pH (az_x ax an au) (az_cV g an V) (az_cV g au T) (az_cH g ax aw S hs)) (az_pH (az_x ax an au) (az_cV g an V) (az_cV g au T) (az_cH g ax aw o33.1 o33.2)).symm 0 rfl rfl rfl (Nat.le_of_ble_eq_true rfl) dX6_delete_33 ⟨(Nat.le_of_ble_eq_true rfl), (Nat.le_of_ble_eq_true rfl)⟩ rfl (fun H locs hP hD hS => ?_)
    have hP : va_P g.1 az_cl (az_w6 g ax an au V (az_cV g au T ++ az_cH g ax aw o33.1 o33.2)) _ := hP
    have hD : va_D A (az_w6 g ax an au V (az_cV g au T ++ az_cH g ax aw o33.1 o33.2)) := hD
    refine lv_aload_n hx hb dX6_delete_36 rfl (lv_at hl 0 rfl) ?_
    refine va_get (D := g.1) (ci := 6) (v := .ref (an 0)) (C := RX6) (T := TX6) (N := 3) hx hb hts inX6_delete_RX6 hown hK hP 0 rfl rfl 0 (Nat.le_of_ble_eq_true rfl) (hts _ (List.mem_of_getElem? (i := 1) rfl)) (fun _ h9 => h9) rfl dX6_delete_37 ?_
    refine lv_iload_n hx hb dX6_delete_40 rfl (lv_at hl 1 rfl) ?_
    obtain ⟨o41, hc41, h⟩ := az_bnd h
    refine az_callPi (w2 := az_w6 g ax an au (va_up (va_up (va_up V 5 o41.2.1) 9 o41.2.2.1) 15 o41.2.2.2) (az_cV g au T ++ az_cH g ax aw o33.1 o33.2)) (As := [.int x1]) (rest := []) ⟨hx, hb, hml, hown, hts⟩ hl.1 (kX5_dropLive l g an V x1 o41 hc41) (cwV 1 hts gX6_delete_X5_dropLive rfl rfl rfl (by decide +kernel) ⟨(Nat.le_of_ble_eq_true rfl), (Nat.le_of_ble_eq_true rfl)⟩) rfl hK hP hD hS hA (az_pm (az_x ax an au :: (az_cV g an V).take 0) (az_cV g an V) ((az_cV g an V).drop 20 ++ (az_cV g au T ++ az_cH g ax aw o33.1 o33.2))) (az_pm (az_x ax an au :: (az_cV g an V).take 0) (az_cV g an (va_up (va_up (va_up V 5 o41.2.1) 9 o41.2.2.1) 15 o41.2.2.2)) ((az_cV g an V).drop 20 ++ (az_cV g au T ++ az_cH g ax aw o33.1 o33.2))).symm 0 rfl rfl rfl (Nat.le_of_ble_eq_true rfl) dX6_delete_41 ⟨(Nat.le_of_ble_eq_true rfl), (Nat.le_of_ble_eq_true rfl)⟩ rfl (fun H locs hP hD hS => ?_)
    have hP : va_P g.1 az_cl (az_w6 g ax an au (va_up (va_up (va_up V 5 o41.2.1) 9 o41.2.2.1) 15 o41.2.2.2) (az_cV g au T ++ az_cH g ax aw o33.1 o33.2)) _ := hP
    have hD : va_D A (az_w6 g ax an au (va_up (va_up (va_up V 5 o41.2.1) 9 o41.2.2.1) 15 o41.2.2.2) (az_cV g au T ++ az_cH g ax aw o33.1 o33.2)) := hD
    have hP : va_P g.1 az_cl (az_w6 g ax an au (va_up (va_up (va_up V 5 o41.2.1) 9 o41.2.2.1) 15 o41.2.2.2) (az_cV g au T ++ az_cH g ax aw o33.1 o33.2)) _ := hP
    have hD : va_D A (az_w6 g ax an au (va_up (va_up (va_up V 5 o41.2.1) 9 o41.2.2.1) 15 o41.2.2.2) (az_cV g au T ++ az_cH g ax aw o33.1 o33.2)) := hD
    rw [← Option.some.inj h]
    exact az_iretT hx hb hr hlocks hK hP hD hS dX6_delete_44 (Nat.le_of_ble_eq_true rfl) (Nat.le_of_ble_eq_true rfl)
  · replace h := az_neg c14 h
    refine lv_iconst (v := (1 : Int32)) hx hb dX6_delete_17 (by decide) ?_
    refine lv_goto (tgt := 22) hx hb dX6_delete_18 (by decide) ?_
    obtain ⟨o22, hc22, h⟩ := az_bnd h
    refine az_callST (As := [.int (1 : Int32)]) (rest := []) ⟨hx, hb, hml, hown, hts⟩ hl.1 (kX6_checkElement l hst g sa (1 : Int32) o22 hc22) (va_cwS 1 hts gX6_delete_X6_checkElement rfl rfl rfl (by decide +kernel) ⟨(Nat.le_of_ble_eq_true rfl), (Nat.le_of_ble_eq_true rfl)⟩) rfl hK hcx hP hS hA (Nat.le_of_ble_eq_true rfl) dX6_delete_22 ⟨(Nat.le_of_ble_eq_true rfl), (Nat.le_of_ble_eq_true rfl)⟩ rfl (fun n22 ce q9 H locs hP hS hce hcv hcl => ?_) (fun c22 H locs hP hS => ?_)
    · replace h := az_neg n22 h
      have hP : va_P g.1 az_cl (az_w6 g ax an au (va_up (va_up (va_up V 5 (V 5)) 9 (V 9)) 15 (V 15)) (az_cV g au T ++ az_cH g ax aw S hs)) _ := hP
      have hD : va_D A (az_w6 g ax an au (va_up (va_up (va_up V 5 (V 5)) 9 (V 9)) 15 (V 15)) (az_cV g au T ++ az_cH g ax aw S hs)) := hD
      rw [← Option.some.inj h]
      exact az_outT n22 hex hlocks hce hcv hcl hK hP hD hS (Nat.le_of_ble_eq_true rfl) (Nat.le_of_ble_eq_true rfl)
    replace h := az_pos c22 h
    refine lv_aload_n hx hb dX6_delete_25 rfl (lv_at hl 0 rfl) ?_
    refine va_get (D := g.1) (ci := 6) (v := .ref (ax 1)) (C := RX6) (T := TX6) (N := 3) hx hb hts inX6_delete_RX6 hown hK hP 0 rfl rfl 2 (Nat.le_of_ble_eq_true rfl) (hts _ (List.mem_of_getElem? (i := 3) rfl)) (fun _ h9 => h9) rfl dX6_delete_26 ?_
    refine lv_aload_n hx hb dX6_delete_29 rfl (lv_at hl 0 rfl) ?_
    refine va_get (D := g.1) (ci := 6) (v := .ref (an 0)) (C := RX6) (T := TX6) (N := 3) hx hb hts inX6_delete_RX6 hown hK hP 0 rfl rfl 0 (Nat.le_of_ble_eq_true rfl) (hts _ (List.mem_of_getElem? (i := 1) rfl)) (fun _ h9 => h9) rfl dX6_delete_30 ?_
    obtain ⟨o33, hc33, h⟩ := az_bnd h
    refine az_callPv (w2 := az_w6 g ax an au V (az_cV g au T ++ az_cH g ax aw o33.1 o33.2)) (As := [.ref (an 0)]) (rest := []) ⟨hx, hb, hml, hown, hts⟩ hl.1 (kX1_save l g ax an aw S hs V o33 hc33) (cwV 1 hts gX6_delete_X1_save rfl rfl rfl (by decide +kernel) ⟨(Nat.le_of_ble_eq_true rfl), (Nat.le_of_ble_eq_true rfl)⟩) rfl hK hP hD hS hA (az_pH (az_x ax an au) (az_cV g an V) (az_cV g au T) (az_cH g ax aw S hs)) (az_pH (az_x ax an au) (az_cV g an V) (az_cV g au T) (az_cH g ax aw o33.1 o33.2)).symm 0 rfl rfl rfl (Nat.le_of_ble_eq_true rfl) dX6_delete_33 ⟨(Nat.le_of_ble_eq_true rfl), (Nat.le_of_ble_eq_true rfl)⟩ rfl (fun H locs hP hD hS => ?_)
    have hP : va_P g.1 az_cl (az_w6 g ax an au V (az_cV g au T ++ az_cH g ax aw o33.1 o33.2)) _ := hP
    have hD : va_D A (az_w6 g ax an au V (az_cV g au T ++ az_cH g ax aw o33.1 o33.2)) := hD
    refine lv_aload_n hx hb dX6_delete_36 rfl (lv_at hl 0 rfl) ?_
    refine va_get (D := g.1) (ci := 6) (v := .ref (an 0)) (C := RX6) (T := TX6) (N := 3) hx hb hts inX6_delete_RX6 hown hK hP 0 rfl rfl 0 (Nat.le_of_ble_eq_true rfl) (hts _ (List.mem_of_getElem? (i := 1) rfl)) (fun _ h9 => h9) rfl dX6_delete_37 ?_
    refine lv_iload_n hx hb dX6_delete_40 rfl (lv_at hl 1 rfl) ?_
    obtain ⟨o41, hc41, h⟩ := az_bnd h
    refine az_callPi (w2 := az_w6 g ax an au (va_up (va_up (va_up V 5 o41.2.1) 9 o41.2.2.1) 15 o41.2.2.2) (az_cV g au T ++ az_cH g ax aw o33.1 o33.2)) (As := [.int x1]) (rest := []) ⟨hx, hb, hml, hown, hts⟩ hl.1 (kX5_dropLive l g an V x1 o41 hc41) (cwV 1 hts gX6_delete_X5_dropLive rfl rfl rfl (by decide +kernel) ⟨(Nat.le_of_ble_eq_true rfl), (Nat.le_of_ble_eq_true rfl)⟩) rfl hK hP hD hS hA (az_pm (az_x ax an au :: (az_cV g an V).take 0) (az_cV g an V) ((az_cV g an V).drop 20 ++ (az_cV g au T ++ az_cH g ax aw o33.1 o33.2))) (az_pm (az_x ax an au :: (az_cV g an V).take 0) (az_cV g an (va_up (va_up (va_up V 5 o41.2.1) 9 o41.2.2.1) 15 o41.2.2.2)) ((az_cV g an V).drop 20 ++ (az_cV g au T ++ az_cH g ax aw o33.1 o33.2))).symm 0 rfl rfl rfl (Nat.le_of_ble_eq_true rfl) dX6_delete_41 ⟨(Nat.le_of_ble_eq_true rfl), (Nat.le_of_ble_eq_true rfl)⟩ rfl (fun H locs hP hD hS => ?_)
    have hP : va_P g.1 az_cl (az_w6 g ax an au (va_up (va_up (va_up V 5 o41.2.1) 9 o41.2.2.1) 15 o41.2.2.2) (az_cV g au T ++ az_cH g ax aw o33.1 o33.2)) _ := hP
    have hD : va_D A (az_w6 g ax an au (va_up (va_up (va_up V 5 o41.2.1) 9 o41.2.2.1) 15 o41.2.2.2) (az_cV g au T ++ az_cH g ax aw o33.1 o33.2)) := hD
    have hP : va_P g.1 az_cl (az_w6 g ax an au (va_up (va_up (va_up V 5 o41.2.1) 9 o41.2.2.1) 15 o41.2.2.2) (az_cV g au T ++ az_cH g ax aw o33.1 o33.2)) _ := hP
    have hD : va_D A (az_w6 g ax an au (va_up (va_up (va_up V 5 o41.2.1) 9 o41.2.2.1) 15 o41.2.2.2) (az_cV g au T ++ az_cH g ax aw o33.1 o33.2)) := hD
    rw [← Option.some.inj h]
    exact az_iretT hx hb hr hlocks hK hP hD hS dX6_delete_44 (Nat.le_of_ble_eq_true rfl) (Nat.le_of_ble_eq_true rfl)

def FX6_get (V : az_St) (x1 : Int32) : Option (Nat × Int32) := (FX6_checkKey x1).bind (fun o1 => if o1 = 0 then (if az_in x1 24 = true then if (V 15) x1.toNatClampNeg = (-1 : Int32) then ((FX6_checkElement (0 : Int32)).bind (fun o24 => if o24 = 0 then (if az_in ((V 15) x1.toNatClampNeg) 160 = true then some (0, (V 7) ((V 15) x1.toNatClampNeg).toNatClampNeg) else none) else some (o24, (0 : Int32)))) else ((FX6_checkElement (1 : Int32)).bind (fun o24 => if o24 = 0 then (if az_in ((V 15) x1.toNatClampNeg) 160 = true then some (0, (V 7) ((V 15) x1.toNatClampNeg).toNatClampNeg) else none) else some (o24, (0 : Int32)))) else none) else some (o1, (0 : Int32)))
theorem inX6_get_RX0 : ∀ w ∈ wsX00, w ∈ wsX6_get := az_inr [36, 37, 38, 39, 40, 41] (by decide +kernel)
theorem inX6_get_RX5 : ∀ w ∈ wsX50, w ∈ wsX6_get := az_inr [25, 26, 27, 28, 29, 30, 31, 32, 33, 34, 35] (by decide +kernel)
theorem inX6_get_RX6 : ∀ w ∈ wsX60, w ∈ wsX6_get := az_inr [22, 23, 24] (by decide +kernel)
set_option maxHeartbeats 4000000 in
set_option maxRecDepth 100000 in
theorem kX6_get (l : Launch) (hst : l.stackTraces = false) (g : az_G) (sa : Nat → Nat) (ax : Nat → Nat) (an : Nat → Nat) (au : Nat → Nat) (Y : va_W) (V : az_St) (x1 : Int32) (o : Nat × Int32) (h : FX6_get V x1 = some o) : az_TI l yX6_get wsX6_get ({ frames := 8, cells := 2, slots := 12, locals := 140 } : Room) [.ref (ax 0), .int x1] g sa (az_w6 g ax an au V Y) o.1 o.2 (az_w6 g ax an au V Y) 2 := by
  refine az_bodyT (cc := cX6_get) (maxL := 3) (ret := (some .int)) (mc := 2) (ms := 12) (Qc := fun A => az_QTI g (az_w6 g ax an au V Y) o.1 o.2 A) (XC := fun A => az_XT g (az_w6 g ax an au V Y) o.1 A) (by decide +kernel) rfl (Nat.le_of_ble_eq_true rfl) ?_
  intro p e s m args below meth c A hx hb hr hts hown hml hlocks hex hcx hA hK hP hD hS ls hl
  have hl : lv_has ls 3 [(0, .ref (ax 0)), (1, .int x1)] := hl
  unfold FX6_get at h
  refine lv_iload_n hx hb dX6_get_0 rfl (lv_at hl 1 rfl) ?_
  obtain ⟨o1, hc1, h⟩ := az_bnd h
  refine az_callST (As := [.int x1]) (rest := []) ⟨hx, hb, hml, hown, hts⟩ hl.1 (kX6_checkKey l hst g sa x1 o1 hc1) (va_cwS 1 hts gX6_get_X6_checkKey rfl rfl rfl (by decide +kernel) ⟨(Nat.le_of_ble_eq_true rfl), (Nat.le_of_ble_eq_true rfl)⟩) rfl hK hcx hP hS hA (Nat.le_of_ble_eq_true rfl) dX6_get_1 ⟨(Nat.le_of_ble_eq_true rfl), (Nat.le_of_ble_eq_true rfl)⟩ rfl (fun n1 ce q9 H locs hP hS hce hcv hcl => ?_) (fun c1 H locs hP hS => ?_)
  · replace h := az_neg n1 h
    have hP : va_P g.1 az_cl (az_w6 g ax an au V Y) _ := hP
    have hD : va_D A (az_w6 g ax an au V Y) := hD
    rw [← Option.some.inj h]
    exact az_outT n1 hex hlocks hce hcv hcl hK hP hD hS (Nat.le_of_ble_eq_true rfl) (Nat.le_of_ble_eq_true rfl)
  replace h := az_pos c1 h
  refine lv_aload_n hx hb dX6_get_4 rfl (lv_at hl 0 rfl) ?_
  refine va_get (D := g.1) (ci := 6) (v := .ref (an 0)) (C := RX6) (T := TX6) (N := 3) hx hb hts inX6_get_RX6 hown hK hP 0 rfl rfl 0 (Nat.le_of_ble_eq_true rfl) (hts _ (List.mem_of_getElem? (i := 1) rfl)) (fun _ h9 => h9) rfl dX6_get_5 ?_
  refine va_get (D := g.1) (ci := 5) (v := .ref (an 19)) (C := RX5) (T := TX5) (N := 11) hx hb hts inX6_get_RX5 hown hK hP 1 rfl rfl 4 (Nat.le_of_ble_eq_true rfl) (hts _ (List.mem_of_getElem? (i := 2) rfl)) (fun _ h9 => h9) rfl dX6_get_8 ?_
  refine lv_iload_n hx hb dX6_get_11 rfl (lv_at hl 1 rfl) ?_
  obtain ⟨i12, h⟩ := az_ite h
  refine va_iald (D := g.1) (f := (V 15)) hx hb hK hP 20 0 rfl rfl (az_vin i12) dX6_get_12 ?_
  refine lv_istore_n (lv' := [(2, .int ((V 15) x1.toNatClampNeg)), (0, .ref (ax 0)), (1, .int x1)]) hx hb dX6_get_13 rfl hl (by decide) rfl (fun ls hl => ?_)
  refine lv_iload_n hx hb dX6_get_14 rfl (lv_at hl 0 rfl) ?_
  refine lv_iconst (v := (-1 : Int32)) hx hb dX6_get_15 (by decide) ?_
  refine lv_icmp_eq (tgt := 23) hx hb dX6_get_16 (by decide) (fun c16 => ?_) (fun c16 => ?_)
  · replace h := az_pos c16 h
    refine lv_iconst (v := (0 : Int32)) hx hb dX6_get_23 (by decide) ?_
    obtain ⟨o24, hc24, h⟩ := az_bnd h
    refine az_callST (As := [.int (0 : Int32)]) (rest := []) ⟨hx, hb, hml, hown, hts⟩ hl.1 (kX6_checkElement l hst g sa (0 : Int32) o24 hc24) (va_cwS 1 hts gX6_get_X6_checkElement rfl rfl rfl (by decide +kernel) ⟨(Nat.le_of_ble_eq_true rfl), (Nat.le_of_ble_eq_true rfl)⟩) rfl hK hcx hP hS hA (Nat.le_of_ble_eq_true rfl) dX6_get_24 ⟨(Nat.le_of_ble_eq_true rfl), (Nat.le_of_ble_eq_true rfl)⟩ rfl (fun n24 ce q9 H locs hP hS hce hcv hcl => ?_) (fun c24 H locs hP hS => ?_)
    · replace h := az_neg n24 h
      have hP : va_P g.1 az_cl (az_w6 g ax an au V Y) _ := hP
      have hD : va_D A (az_w6 g ax an au V Y) := hD
      rw [← Option.some.inj h]
      exact az_outT n24 hex hlocks hce hcv hcl hK hP hD hS (Nat.le_of_ble_eq_true rfl) (Nat.le_of_ble_eq_true rfl)
    replace h := az_pos c24 h
    refine lv_aload_n hx hb dX6_get_27 rfl (lv_at hl 1 rfl) ?_
    refine va_get (D := g.1) (ci := 6) (v := .ref (an 0)) (C := RX6) (T := TX6) (N := 3) hx hb hts inX6_get_RX6 hown hK hP 0 rfl rfl 0 (Nat.le_of_ble_eq_true rfl) (hts _ (List.mem_of_getElem? (i := 1) rfl)) (fun _ h9 => h9) rfl dX6_get_28 ?_
    refine va_get (D := g.1) (ci := 5) (v := .ref (an 6)) (C := RX5) (T := TX5) (N := 11) hx hb hts inX6_get_RX5 hown hK hP 1 rfl rfl 1 (Nat.le_of_ble_eq_true rfl) (hts _ (List.mem_of_getElem? (i := 3) rfl)) (fun _ h9 => h9) rfl dX6_get_31 ?_
    refine va_get (D := g.1) (ci := 0) (v := .ref (an 9)) (C := RX0) (T := TX0) (N := 6) hx hb hts inX6_get_RX0 hown hK hP 7 rfl rfl 2 (Nat.le_of_ble_eq_true rfl) (hts _ (List.mem_of_getElem? (i := 4) rfl)) (fun _ h9 => h9) rfl dX6_get_34 ?_
    refine lv_iload_n hx hb dX6_get_37 rfl (lv_at hl 0 rfl) ?_
    obtain ⟨i38, h⟩ := az_ite h
    refine va_iald (D := g.1) (f := (V 7)) hx hb hK hP 10 0 rfl rfl (az_vin i38) dX6_get_38 ?_
    have hP : va_P g.1 az_cl (az_w6 g ax an au V Y) _ := hP
    have hD : va_D A (az_w6 g ax an au V Y) := hD
    rw [← Option.some.inj h]
    exact az_iretT hx hb hr hlocks hK hP hD hS dX6_get_39 (Nat.le_of_ble_eq_true rfl) (Nat.le_of_ble_eq_true rfl)
  · replace h := az_neg c16 h
    refine lv_iconst (v := (1 : Int32)) hx hb dX6_get_19 (by decide) ?_
    refine lv_goto (tgt := 24) hx hb dX6_get_20 (by decide) ?_
    obtain ⟨o24, hc24, h⟩ := az_bnd h
    refine az_callST (As := [.int (1 : Int32)]) (rest := []) ⟨hx, hb, hml, hown, hts⟩ hl.1 (kX6_checkElement l hst g sa (1 : Int32) o24 hc24) (va_cwS 1 hts gX6_get_X6_checkElement rfl rfl rfl (by decide +kernel) ⟨(Nat.le_of_ble_eq_true rfl), (Nat.le_of_ble_eq_true rfl)⟩) rfl hK hcx hP hS hA (Nat.le_of_ble_eq_true rfl) dX6_get_24 ⟨(Nat.le_of_ble_eq_true rfl), (Nat.le_of_ble_eq_true rfl)⟩ rfl (fun n24 ce q9 H locs hP hS hce hcv hcl => ?_) (fun c24 H locs hP hS => ?_)
    · replace h := az_neg n24 h
      have hP : va_P g.1 az_cl (az_w6 g ax an au V Y) _ := hP
      have hD : va_D A (az_w6 g ax an au V Y) := hD
      rw [← Option.some.inj h]
      exact az_outT n24 hex hlocks hce hcv hcl hK hP hD hS (Nat.le_of_ble_eq_true rfl) (Nat.le_of_ble_eq_true rfl)
    replace h := az_pos c24 h
    refine lv_aload_n hx hb dX6_get_27 rfl (lv_at hl 1 rfl) ?_
    refine va_get (D := g.1) (ci := 6) (v := .ref (an 0)) (C := RX6) (T := TX6) (N := 3) hx hb hts inX6_get_RX6 hown hK hP 0 rfl rfl 0 (Nat.le_of_ble_eq_true rfl) (hts _ (List.mem_of_getElem? (i := 1) rfl)) (fun _ h9 => h9) rfl dX6_get_28 ?_
    refine va_get (D := g.1) (ci := 5) (v := .ref (an 6)) (C := RX5) (T := TX5) (N := 11) hx hb hts inX6_get_RX5 hown hK hP 1 rfl rfl 1 (Nat.le_of_ble_eq_true rfl) (hts _ (List.mem_of_getElem? (i := 3) rfl)) (fun _ h9 => h9) rfl dX6_get_31 ?_
    refine va_get (D := g.1) (ci := 0) (v := .ref (an 9)) (C := RX0) (T := TX0) (N := 6) hx hb hts inX6_get_RX0 hown hK hP 7 rfl rfl 2 (Nat.le_of_ble_eq_true rfl) (hts _ (List.mem_of_getElem? (i := 4) rfl)) (fun _ h9 => h9) rfl dX6_get_34 ?_
    refine lv_iload_n hx hb dX6_get_37 rfl (lv_at hl 0 rfl) ?_
    obtain ⟨i38, h⟩ := az_ite h
    refine va_iald (D := g.1) (f := (V 7)) hx hb hK hP 10 0 rfl rfl (az_vin i38) dX6_get_38 ?_
    have hP : va_P g.1 az_cl (az_w6 g ax an au V Y) _ := hP
    have hD : va_D A (az_w6 g ax an au V Y) := hD
    rw [← Option.some.inj h]
    exact az_iretT hx hb hr hlocks hK hP hD hS dX6_get_39 (Nat.le_of_ble_eq_true rfl) (Nat.le_of_ble_eq_true rfl)

def FX6_addressOf (V : az_St) (x1 : Int32) : Option (Nat × Int32) := (FX6_checkKey x1).bind (fun o1 => if o1 = 0 then (if az_in x1 24 = true then some (0, (V 15) x1.toNatClampNeg) else none) else some (o1, (0 : Int32)))
theorem inX6_addressOf_RX5 : ∀ w ∈ wsX50, w ∈ wsX6_addressOf := az_inr [18, 19, 20, 21, 22, 23, 24, 25, 26, 27, 28] (by decide +kernel)
theorem inX6_addressOf_RX6 : ∀ w ∈ wsX60, w ∈ wsX6_addressOf := az_inr [15, 16, 17] (by decide +kernel)
set_option maxHeartbeats 4000000 in
set_option maxRecDepth 100000 in
theorem kX6_addressOf (l : Launch) (hst : l.stackTraces = false) (g : az_G) (sa : Nat → Nat) (ax : Nat → Nat) (an : Nat → Nat) (au : Nat → Nat) (Y : va_W) (V : az_St) (x1 : Int32) (o : Nat × Int32) (h : FX6_addressOf V x1 = some o) : az_TI l yX6_addressOf wsX6_addressOf ({ frames := 8, cells := 1, slots := 6, locals := 140 } : Room) [.ref (ax 0), .int x1] g sa (az_w6 g ax an au V Y) o.1 o.2 (az_w6 g ax an au V Y) 1 := by
  refine az_bodyT (cc := cX6_addressOf) (maxL := 2) (ret := (some .int)) (mc := 1) (ms := 6) (Qc := fun A => az_QTI g (az_w6 g ax an au V Y) o.1 o.2 A) (XC := fun A => az_XT g (az_w6 g ax an au V Y) o.1 A) (by decide +kernel) rfl (Nat.le_of_ble_eq_true rfl) ?_
  intro p e s m args below meth c A hx hb hr hts hown hml hlocks hex hcx hA hK hP hD hS ls hl
  have hl : lv_has ls 2 [(0, .ref (ax 0)), (1, .int x1)] := hl
  unfold FX6_addressOf at h
  refine lv_iload_n hx hb dX6_addressOf_0 rfl (lv_at hl 1 rfl) ?_
  obtain ⟨o1, hc1, h⟩ := az_bnd h
  refine az_callST (As := [.int x1]) (rest := []) ⟨hx, hb, hml, hown, hts⟩ hl.1 (kX6_checkKey l hst g sa x1 o1 hc1) (va_cwS 1 hts gX6_addressOf_X6_checkKey rfl rfl rfl (by decide +kernel) ⟨(Nat.le_of_ble_eq_true rfl), (Nat.le_of_ble_eq_true rfl)⟩) rfl hK hcx hP hS hA (Nat.le_of_ble_eq_true rfl) dX6_addressOf_1 ⟨(Nat.le_of_ble_eq_true rfl), (Nat.le_of_ble_eq_true rfl)⟩ rfl (fun n1 ce q9 H locs hP hS hce hcv hcl => ?_) (fun c1 H locs hP hS => ?_)
  · replace h := az_neg n1 h
    have hP : va_P g.1 az_cl (az_w6 g ax an au V Y) _ := hP
    have hD : va_D A (az_w6 g ax an au V Y) := hD
    rw [← Option.some.inj h]
    exact az_outT n1 hex hlocks hce hcv hcl hK hP hD hS (Nat.le_of_ble_eq_true rfl) (Nat.le_of_ble_eq_true rfl)
  replace h := az_pos c1 h
  refine lv_aload_n hx hb dX6_addressOf_4 rfl (lv_at hl 0 rfl) ?_
  refine va_get (D := g.1) (ci := 6) (v := .ref (an 0)) (C := RX6) (T := TX6) (N := 3) hx hb hts inX6_addressOf_RX6 hown hK hP 0 rfl rfl 0 (Nat.le_of_ble_eq_true rfl) (hts _ (List.mem_of_getElem? (i := 1) rfl)) (fun _ h9 => h9) rfl dX6_addressOf_5 ?_
  refine va_get (D := g.1) (ci := 5) (v := .ref (an 19)) (C := RX5) (T := TX5) (N := 11) hx hb hts inX6_addressOf_RX5 hown hK hP 1 rfl rfl 4 (Nat.le_of_ble_eq_true rfl) (hts _ (List.mem_of_getElem? (i := 2) rfl)) (fun _ h9 => h9) rfl dX6_addressOf_8 ?_
  refine lv_iload_n hx hb dX6_addressOf_11 rfl (lv_at hl 1 rfl) ?_
  obtain ⟨i12, h⟩ := az_ite h
  refine va_iald (D := g.1) (f := (V 15)) hx hb hK hP 20 0 rfl rfl (az_vin i12) dX6_addressOf_12 ?_
  have hP : va_P g.1 az_cl (az_w6 g ax an au V Y) _ := hP
  have hD : va_D A (az_w6 g ax an au V Y) := hD
  rw [← Option.some.inj h]
  exact az_iretT hx hb hr hlocks hK hP hD hS dX6_addressOf_13 (Nat.le_of_ble_eq_true rfl) (Nat.le_of_ble_eq_true rfl)

def FX6_room (V : az_St) : Option (Int32) := (FX5_roomForWrites V ).bind (fun o4 => some (o4))
theorem inX6_room_RX6 : ∀ w ∈ wsX60, w ∈ wsX6_room := az_inr [27, 28, 29] (by decide +kernel)
set_option maxHeartbeats 4000000 in
set_option maxRecDepth 100000 in
theorem kX6_room (l : Launch) (g : az_G) (ax : Nat → Nat) (an : Nat → Nat) (au : Nat → Nat) (Y : va_W) (V : az_St) (o : Int32) (h : FX6_room V = some o) : az_I l yX6_room wsX6_room ({ frames := 2, cells := 0, slots := 0, locals := 61 } : Room) [.ref (ax 0)] g (az_w6 g ax an au V Y) o (az_w6 g ax an au V Y) := by
  refine az_body (cc := cX6_room) (maxL := 1) (ret := (some .int)) (Qc := fun A => az_QI g (az_w6 g ax an au V Y) o A) (by decide +kernel) rfl (Nat.le_of_ble_eq_true rfl) ?_
  intro p e s m args below meth c A hx hb hr hts hown hml hlocks hA hK hP hD hS ls hl
  have hl : lv_has ls 1 [(0, .ref (ax 0))] := hl
  unfold FX6_room at h
  refine lv_aload_n hx hb dX6_room_0 rfl (lv_at hl 0 rfl) ?_
  refine va_get (D := g.1) (ci := 6) (v := .ref (an 0)) (C := RX6) (T := TX6) (N := 3) hx hb hts inX6_room_RX6 hown hK hP 0 rfl rfl 0 (Nat.le_of_ble_eq_true rfl) (hts _ (List.mem_of_getElem? (i := 1) rfl)) (fun _ h9 => h9) rfl dX6_room_1 ?_
  obtain ⟨o4, hc4, h⟩ := az_bnd h
  refine az_callPi (w2 := az_w6 g ax an au V Y) (As := []) (rest := []) ⟨hx, hb, hml, hown, hts⟩ hl.1 (kX5_roomForWrites l g an V  o4 hc4) (cwV 0 hts gX6_room_X5_roomForWrites rfl rfl rfl (by decide +kernel) ⟨(Nat.le_of_ble_eq_true rfl), (Nat.le_of_ble_eq_true rfl)⟩) rfl hK hP hD hS hA (az_pm (az_x ax an au :: (az_cV g an V).take 0) (az_cV g an V) ((az_cV g an V).drop 20 ++ Y)) (az_pm (az_x ax an au :: (az_cV g an V).take 0) (az_cV g an V) ((az_cV g an V).drop 20 ++ Y)).symm 0 rfl rfl rfl (Nat.le_of_ble_eq_true rfl) dX6_room_4 ⟨Nat.zero_le _, Nat.zero_le _⟩ rfl (fun H locs hP hD hS => ?_)
  have hP : va_P g.1 az_cl (az_w6 g ax an au V Y) _ := hP
  have hD : va_D A (az_w6 g ax an au V Y) := hD
  have hP : va_P g.1 az_cl (az_w6 g ax an au V Y) _ := hP
  have hD : va_D A (az_w6 g ax an au V Y) := hD
  rw [← Option.some.inj h]
  exact az_iret hx hb hr hlocks hK hP hD hS dX6_room_7

def FX6_versions (V : az_St) (x1 : Int32) : Option (Nat × Int32) := (FX6_checkKey x1).bind (fun o1 => if o1 = 0 then ((FX0_versionsOf V x1).bind (fun o12 => some (0, o12))) else some (o1, (0 : Int32)))
theorem inX6_versions_RX5 : ∀ w ∈ wsX50, w ∈ wsX6_versions := az_inr [33, 34, 35, 36, 37, 38, 39, 40, 41, 42, 43] (by decide +kernel)
theorem inX6_versions_RX6 : ∀ w ∈ wsX60, w ∈ wsX6_versions := az_inr [30, 31, 32] (by decide +kernel)
set_option maxHeartbeats 4000000 in
set_option maxRecDepth 100000 in
theorem kX6_versions (l : Launch) (hst : l.stackTraces = false) (g : az_G) (sa : Nat → Nat) (ax : Nat → Nat) (an : Nat → Nat) (au : Nat → Nat) (Y : va_W) (V : az_St) (x1 : Int32) (o : Nat × Int32) (h : FX6_versions V x1 = some o) : az_TI l yX6_versions wsX6_versions ({ frames := 8, cells := 1, slots := 6, locals := 140 } : Room) [.ref (ax 0), .int x1] g sa (az_w6 g ax an au V Y) o.1 o.2 (az_w6 g ax an au V Y) 1 := by
  refine az_bodyT (cc := cX6_versions) (maxL := 2) (ret := (some .int)) (mc := 1) (ms := 6) (Qc := fun A => az_QTI g (az_w6 g ax an au V Y) o.1 o.2 A) (XC := fun A => az_XT g (az_w6 g ax an au V Y) o.1 A) (by decide +kernel) rfl (Nat.le_of_ble_eq_true rfl) ?_
  intro p e s m args below meth c A hx hb hr hts hown hml hlocks hex hcx hA hK hP hD hS ls hl
  have hl : lv_has ls 2 [(0, .ref (ax 0)), (1, .int x1)] := hl
  unfold FX6_versions at h
  refine lv_iload_n hx hb dX6_versions_0 rfl (lv_at hl 1 rfl) ?_
  obtain ⟨o1, hc1, h⟩ := az_bnd h
  refine az_callST (As := [.int x1]) (rest := []) ⟨hx, hb, hml, hown, hts⟩ hl.1 (kX6_checkKey l hst g sa x1 o1 hc1) (va_cwS 1 hts gX6_versions_X6_checkKey rfl rfl rfl (by decide +kernel) ⟨(Nat.le_of_ble_eq_true rfl), (Nat.le_of_ble_eq_true rfl)⟩) rfl hK hcx hP hS hA (Nat.le_of_ble_eq_true rfl) dX6_versions_1 ⟨(Nat.le_of_ble_eq_true rfl), (Nat.le_of_ble_eq_true rfl)⟩ rfl (fun n1 ce q9 H locs hP hS hce hcv hcl => ?_) (fun c1 H locs hP hS => ?_)
  · replace h := az_neg n1 h
    have hP : va_P g.1 az_cl (az_w6 g ax an au V Y) _ := hP
    have hD : va_D A (az_w6 g ax an au V Y) := hD
    rw [← Option.some.inj h]
    exact az_outT n1 hex hlocks hce hcv hcl hK hP hD hS (Nat.le_of_ble_eq_true rfl) (Nat.le_of_ble_eq_true rfl)
  replace h := az_pos c1 h
  refine lv_aload_n hx hb dX6_versions_4 rfl (lv_at hl 0 rfl) ?_
  refine va_get (D := g.1) (ci := 6) (v := .ref (an 0)) (C := RX6) (T := TX6) (N := 3) hx hb hts inX6_versions_RX6 hown hK hP 0 rfl rfl 0 (Nat.le_of_ble_eq_true rfl) (hts _ (List.mem_of_getElem? (i := 1) rfl)) (fun _ h9 => h9) rfl dX6_versions_5 ?_
  refine va_get (D := g.1) (ci := 5) (v := .ref (an 6)) (C := RX5) (T := TX5) (N := 11) hx hb hts inX6_versions_RX5 hown hK hP 1 rfl rfl 1 (Nat.le_of_ble_eq_true rfl) (hts _ (List.mem_of_getElem? (i := 2) rfl)) (fun _ h9 => h9) rfl dX6_versions_8 ?_
  refine lv_iload_n hx hb dX6_versions_11 rfl (lv_at hl 1 rfl) ?_
  obtain ⟨o12, hc12, h⟩ := az_bnd h
  refine az_callPi (w2 := az_w6 g ax an au V Y) (As := [.int x1]) (rest := []) ⟨hx, hb, hml, hown, hts⟩ hl.1 (kX0_versionsOf l g an V x1 o12 hc12) (cwV 1 hts gX6_versions_X0_versionsOf rfl rfl rfl (by decide +kernel) ⟨(Nat.le_of_ble_eq_true rfl), (Nat.le_of_ble_eq_true rfl)⟩) rfl hK hP hD hS hA (az_pm (az_x ax an au :: (az_cV g an V).take 6) (az_cB g an V) ((az_cV g an V).drop 13 ++ Y)) (az_pm (az_x ax an au :: (az_cV g an V).take 6) (az_cB g an V) ((az_cV g an V).drop 13 ++ Y)).symm 0 rfl rfl rfl (Nat.le_of_ble_eq_true rfl) dX6_versions_12 ⟨(Nat.le_of_ble_eq_true rfl), (Nat.le_of_ble_eq_true rfl)⟩ rfl (fun H locs hP hD hS => ?_)
  have hP : va_P g.1 az_cl (az_w6 g ax an au V Y) _ := hP
  have hD : va_D A (az_w6 g ax an au V Y) := hD
  have hP : va_P g.1 az_cl (az_w6 g ax an au V Y) _ := hP
  have hD : va_D A (az_w6 g ax an au V Y) := hD
  rw [← Option.some.inj h]
  exact az_iretT hx hb hr hlocks hK hP hD hS dX6_versions_15 (Nat.le_of_ble_eq_true rfl) (Nat.le_of_ble_eq_true rfl)

def FX6_version (V : az_St) (x1 : Int32) (x2 : Int32) : Option (Nat × Int32) := (FX6_checkKey x1).bind (fun o1 => if o1 = 0 then ((FX0_versionAt V x1 x2).bind (fun o13 => if o13 = (-1 : Int32) then ((FX6_checkIndex (0 : Int32)).bind (fun o27 => if o27 = 0 then (some (0, o13)) else some (o27, (0 : Int32)))) else ((FX6_checkIndex (1 : Int32)).bind (fun o27 => if o27 = 0 then (some (0, o13)) else some (o27, (0 : Int32)))))) else some (o1, (0 : Int32)))
theorem inX6_version_RX5 : ∀ w ∈ wsX50, w ∈ wsX6_version := az_inr [33, 34, 35, 36, 37, 38, 39, 40, 41, 42, 43] (by decide +kernel)
theorem inX6_version_RX6 : ∀ w ∈ wsX60, w ∈ wsX6_version := az_inr [30, 31, 32] (by decide +kernel)
set_option maxHeartbeats 4000000 in
set_option maxRecDepth 100000 in
theorem kX6_version (l : Launch) (hst : l.stackTraces = false) (g : az_G) (sa : Nat → Nat) (ax : Nat → Nat) (an : Nat → Nat) (au : Nat → Nat) (Y : va_W) (V : az_St) (x1 : Int32) (x2 : Int32) (o : Nat × Int32) (h : FX6_version V x1 x2 = some o) : az_TI l yX6_version wsX6_version ({ frames := 8, cells := 2, slots := 12, locals := 140 } : Room) [.ref (ax 0), .int x1, .int x2] g sa (az_w6 g ax an au V Y) o.1 o.2 (az_w6 g ax an au V Y) 2 := by
  refine az_bodyT (cc := cX6_version) (maxL := 4) (ret := (some .int)) (mc := 2) (ms := 12) (Qc := fun A => az_QTI g (az_w6 g ax an au V Y) o.1 o.2 A) (XC := fun A => az_XT g (az_w6 g ax an au V Y) o.1 A) (by decide +kernel) rfl (Nat.le_of_ble_eq_true rfl) ?_
  intro p e s m args below meth c A hx hb hr hts hown hml hlocks hex hcx hA hK hP hD hS ls hl
  have hl : lv_has ls 4 [(0, .ref (ax 0)), (1, .int x1), (2, .int x2)] := hl
  unfold FX6_version at h
  refine lv_iload_n hx hb dX6_version_0 rfl (lv_at hl 1 rfl) ?_
  obtain ⟨o1, hc1, h⟩ := az_bnd h
  refine az_callST (As := [.int x1]) (rest := []) ⟨hx, hb, hml, hown, hts⟩ hl.1 (kX6_checkKey l hst g sa x1 o1 hc1) (va_cwS 1 hts gX6_version_X6_checkKey rfl rfl rfl (by decide +kernel) ⟨(Nat.le_of_ble_eq_true rfl), (Nat.le_of_ble_eq_true rfl)⟩) rfl hK hcx hP hS hA (Nat.le_of_ble_eq_true rfl) dX6_version_1 ⟨(Nat.le_of_ble_eq_true rfl), (Nat.le_of_ble_eq_true rfl)⟩ rfl (fun n1 ce q9 H locs hP hS hce hcv hcl => ?_) (fun c1 H locs hP hS => ?_)
  · replace h := az_neg n1 h
    have hP : va_P g.1 az_cl (az_w6 g ax an au V Y) _ := hP
    have hD : va_D A (az_w6 g ax an au V Y) := hD
    rw [← Option.some.inj h]
    exact az_outT n1 hex hlocks hce hcv hcl hK hP hD hS (Nat.le_of_ble_eq_true rfl) (Nat.le_of_ble_eq_true rfl)
  replace h := az_pos c1 h
  refine lv_aload_n hx hb dX6_version_4 rfl (lv_at hl 0 rfl) ?_
  refine va_get (D := g.1) (ci := 6) (v := .ref (an 0)) (C := RX6) (T := TX6) (N := 3) hx hb hts inX6_version_RX6 hown hK hP 0 rfl rfl 0 (Nat.le_of_ble_eq_true rfl) (hts _ (List.mem_of_getElem? (i := 1) rfl)) (fun _ h9 => h9) rfl dX6_version_5 ?_
  refine va_get (D := g.1) (ci := 5) (v := .ref (an 6)) (C := RX5) (T := TX5) (N := 11) hx hb hts inX6_version_RX5 hown hK hP 1 rfl rfl 1 (Nat.le_of_ble_eq_true rfl) (hts _ (List.mem_of_getElem? (i := 2) rfl)) (fun _ h9 => h9) rfl dX6_version_8 ?_
  refine lv_iload_n hx hb dX6_version_11 rfl (lv_at hl 1 rfl) ?_
  refine lv_iload_n hx hb dX6_version_12 rfl (lv_at hl 2 rfl) ?_
  obtain ⟨o13, hc13, h⟩ := az_bnd h
  refine az_callPi (w2 := az_w6 g ax an au V Y) (As := [.int x1, .int x2]) (rest := []) ⟨hx, hb, hml, hown, hts⟩ hl.1 (kX0_versionAt l g an V x1 x2 o13 hc13) (cwV 2 hts gX6_version_X0_versionAt rfl rfl rfl (by decide +kernel) ⟨(Nat.le_of_ble_eq_true rfl), (Nat.le_of_ble_eq_true rfl)⟩) rfl hK hP hD hS hA (az_pm (az_x ax an au :: (az_cV g an V).take 6) (az_cB g an V) ((az_cV g an V).drop 13 ++ Y)) (az_pm (az_x ax an au :: (az_cV g an V).take 6) (az_cB g an V) ((az_cV g an V).drop 13 ++ Y)).symm 0 rfl rfl rfl (Nat.le_of_ble_eq_true rfl) dX6_version_13 ⟨(Nat.le_of_ble_eq_true rfl), (Nat.le_of_ble_eq_true rfl)⟩ rfl (fun H locs hP hD hS => ?_)
  have hP : va_P g.1 az_cl (az_w6 g ax an au V Y) _ := hP
  have hD : va_D A (az_w6 g ax an au V Y) := hD
  refine lv_istore_n (lv' := [(3, .int o13), (0, .ref (ax 0)), (1, .int x1), (2, .int x2)]) hx hb dX6_version_16 rfl hl (by decide) rfl (fun ls hl => ?_)
  refine lv_iload_n hx hb dX6_version_17 rfl (lv_at hl 0 rfl) ?_
  refine lv_iconst (v := (-1 : Int32)) hx hb dX6_version_18 (by decide) ?_
  refine lv_icmp_eq (tgt := 26) hx hb dX6_version_19 (by decide) (fun c19 => ?_) (fun c19 => ?_)
  · replace h := az_pos c19 h
    refine lv_iconst (v := (0 : Int32)) hx hb dX6_version_26 (by decide) ?_
    obtain ⟨o27, hc27, h⟩ := az_bnd h
    refine az_callST (As := [.int (0 : Int32)]) (rest := []) ⟨hx, hb, hml, hown, hts⟩ hl.1 (kX6_checkIndex l hst g sa (0 : Int32) o27 hc27) (va_cwS 1 hts gX6_version_X6_checkIndex rfl rfl rfl (by decide +kernel) ⟨(Nat.le_of_ble_eq_true rfl), (Nat.le_of_ble_eq_true rfl)⟩) rfl hK hcx hP hS hA (Nat.le_of_ble_eq_true rfl) dX6_version_27 ⟨(Nat.le_of_ble_eq_true rfl), (Nat.le_of_ble_eq_true rfl)⟩ rfl (fun n27 ce q9 H locs hP hS hce hcv hcl => ?_) (fun c27 H locs hP hS => ?_)
    · replace h := az_neg n27 h
      have hP : va_P g.1 az_cl (az_w6 g ax an au V Y) _ := hP
      have hD : va_D A (az_w6 g ax an au V Y) := hD
      rw [← Option.some.inj h]
      exact az_outT n27 hex hlocks hce hcv hcl hK hP hD hS (Nat.le_of_ble_eq_true rfl) (Nat.le_of_ble_eq_true rfl)
    replace h := az_pos c27 h
    refine lv_iload_n hx hb dX6_version_30 rfl (lv_at hl 0 rfl) ?_
    have hP : va_P g.1 az_cl (az_w6 g ax an au V Y) _ := hP
    have hD : va_D A (az_w6 g ax an au V Y) := hD
    rw [← Option.some.inj h]
    exact az_iretT hx hb hr hlocks hK hP hD hS dX6_version_31 (Nat.le_of_ble_eq_true rfl) (Nat.le_of_ble_eq_true rfl)
  · replace h := az_neg c19 h
    refine lv_iconst (v := (1 : Int32)) hx hb dX6_version_22 (by decide) ?_
    refine lv_goto (tgt := 27) hx hb dX6_version_23 (by decide) ?_
    obtain ⟨o27, hc27, h⟩ := az_bnd h
    refine az_callST (As := [.int (1 : Int32)]) (rest := []) ⟨hx, hb, hml, hown, hts⟩ hl.1 (kX6_checkIndex l hst g sa (1 : Int32) o27 hc27) (va_cwS 1 hts gX6_version_X6_checkIndex rfl rfl rfl (by decide +kernel) ⟨(Nat.le_of_ble_eq_true rfl), (Nat.le_of_ble_eq_true rfl)⟩) rfl hK hcx hP hS hA (Nat.le_of_ble_eq_true rfl) dX6_version_27 ⟨(Nat.le_of_ble_eq_true rfl), (Nat.le_of_ble_eq_true rfl)⟩ rfl (fun n27 ce q9 H locs hP hS hce hcv hcl => ?_) (fun c27 H locs hP hS => ?_)
    · replace h := az_neg n27 h
      have hP : va_P g.1 az_cl (az_w6 g ax an au V Y) _ := hP
      have hD : va_D A (az_w6 g ax an au V Y) := hD
      rw [← Option.some.inj h]
      exact az_outT n27 hex hlocks hce hcv hcl hK hP hD hS (Nat.le_of_ble_eq_true rfl) (Nat.le_of_ble_eq_true rfl)
    replace h := az_pos c27 h
    refine lv_iload_n hx hb dX6_version_30 rfl (lv_at hl 0 rfl) ?_
    have hP : va_P g.1 az_cl (az_w6 g ax an au V Y) _ := hP
    have hD : va_D A (az_w6 g ax an au V Y) := hD
    rw [← Option.some.inj h]
    exact az_iretT hx hb hr hlocks hK hP hD hS dX6_version_31 (Nat.le_of_ble_eq_true rfl) (Nat.le_of_ble_eq_true rfl)

def FX6_checkSnapshot (x0 : Int32) : Option (Nat) := (FX6_isBetween x0 (0 : Int32) (3 : Int32)).bind (fun o3 => (FX6_checkIndex o3).bind (fun o6 => if o6 = 0 then (some (0)) else some o6))
set_option maxHeartbeats 4000000 in
set_option maxRecDepth 100000 in
theorem kX6_checkSnapshot (l : Launch) (hst : l.stackTraces = false) (g : az_G) (sa : Nat → Nat)  (x0 : Int32) (o : Nat) (h : FX6_checkSnapshot x0 = some o) : az_TV l yX6_checkSnapshot wsX6_checkSnapshot ({ frames := 7, cells := 1, slots := 6, locals := 120 } : Room) [.int x0] g sa ([]) o ([]) 1 := by
  refine az_bodyT (cc := cX6_checkSnapshot) (maxL := 1) (ret := none) (mc := 1) (ms := 6) (Qc := fun A => az_QTV g ([]) o A) (XC := fun A => az_XT g ([]) o A) (by decide +kernel) rfl (Nat.le_of_ble_eq_true rfl) ?_
  intro p e s m args below meth c A hx hb hr hts hown hml hlocks hex hcx hA hK hP hD hS ls hl
  have hl : lv_has ls 1 [(0, .int x0)] := hl
  unfold FX6_checkSnapshot at h
  refine lv_iload_n hx hb dX6_checkSnapshot_0 rfl (lv_at hl 0 rfl) ?_
  refine lv_iconst (v := (0 : Int32)) hx hb dX6_checkSnapshot_1 (by decide) ?_
  refine lv_iconst (v := (3 : Int32)) hx hb dX6_checkSnapshot_2 (by decide) ?_
  obtain ⟨o3, hc3, h⟩ := az_bnd h
  refine az_callS0 (As := [.int x0, .int (0 : Int32), .int (3 : Int32)]) (rest := []) ⟨hx, hb, hml, hown, hts⟩ hl.1 (kX6_isBetween l g x0 (0 : Int32) (3 : Int32) o3 hc3) (va_cwS 3 hts gX6_checkSnapshot_X6_isBetween rfl rfl rfl (by decide +kernel) ⟨(Nat.le_of_ble_eq_true rfl), (Nat.le_of_ble_eq_true rfl)⟩) rfl hK hP hS hA (Nat.le_of_ble_eq_true rfl) dX6_checkSnapshot_3 ⟨(Nat.le_of_ble_eq_true rfl), (Nat.le_of_ble_eq_true rfl)⟩ rfl (fun H locs hP hS => ?_)
  obtain ⟨o6, hc6, h⟩ := az_bnd h
  refine az_callST (As := [.int o3]) (rest := []) ⟨hx, hb, hml, hown, hts⟩ hl.1 (kX6_checkIndex l hst g sa o3 o6 hc6) (va_cwS 1 hts gX6_checkSnapshot_X6_checkIndex rfl rfl rfl (by decide +kernel) ⟨(Nat.le_of_ble_eq_true rfl), (Nat.le_of_ble_eq_true rfl)⟩) rfl hK hcx hP hS hA (Nat.le_of_ble_eq_true rfl) dX6_checkSnapshot_6 ⟨(Nat.le_of_ble_eq_true rfl), (Nat.le_of_ble_eq_true rfl)⟩ rfl (fun n6 ce q9 H locs hP hS hce hcv hcl => ?_) (fun c6 H locs hP hS => ?_)
  · replace h := az_neg n6 h
    have hP : va_P g.1 az_cl ([]) _ := hP
    have hD : va_D A ([]) := hD
    rw [← Option.some.inj h]
    exact az_outT n6 hex hlocks hce hcv hcl hK hP hD hS (Nat.le_of_ble_eq_true rfl) (Nat.le_of_ble_eq_true rfl)
  replace h := az_pos c6 h
  have hP : va_P g.1 az_cl ([]) _ := hP
  have hD : va_D A ([]) := hD
  rw [← Option.some.inj h]
  exact az_vretT hx hb hr hlocks hK hP hD hS dX6_checkSnapshot_9 (Nat.le_of_ble_eq_true rfl) (Nat.le_of_ble_eq_true rfl)

def FX6_takeSnapshot (V : az_St) (T : az_St) (S : Nat → az_St) (hs : Nat → Int32) (x1 : Int32) : Option (Nat × Int32 × (Nat → az_St) × (Nat → Int32) × (Nat → Int32) × (Nat → Int32)) := (FX6_checkSnapshot x1).bind (fun o1 => if o1 = 0 then (if az_in x1 4 = true then if (V 13) x1.toNatClampNeg = (0 : Int32) then ((FX6_checkState (1 : Int32)).bind (fun o24 => if o24 = 0 then ((FX1_save S hs V).bind (fun o35 => (FX4_take V x1).bind (fun o53 => some (0, o53.1, o35.1, o53.2.1, o53.2.2, o35.2)))) else some (o24, (0 : Int32), S, (V 13), (V 14), hs))) else ((FX6_checkState (0 : Int32)).bind (fun o24 => if o24 = 0 then ((FX1_save S hs V).bind (fun o35 => (FX4_take V x1).bind (fun o53 => some (0, o53.1, o35.1, o53.2.1, o53.2.2, o35.2)))) else some (o24, (0 : Int32), S, (V 13), (V 14), hs))) else none) else some (o1, (0 : Int32), S, (V 13), (V 14), hs))
theorem inX6_takeSnapshot_RX4 : ∀ w ∈ wsX40, w ∈ wsX6_takeSnapshot := az_inr [113, 114] (by decide +kernel)
theorem inX6_takeSnapshot_RX5 : ∀ w ∈ wsX50, w ∈ wsX6_takeSnapshot := az_inr [102, 103, 104, 105, 106, 107, 108, 109, 110, 111, 112] (by decide +kernel)
theorem inX6_takeSnapshot_RX6 : ∀ w ∈ wsX60, w ∈ wsX6_takeSnapshot := az_inr [99, 100, 101] (by decide +kernel)
set_option maxHeartbeats 4000000 in
set_option maxRecDepth 100000 in
theorem kX6_takeSnapshot (l : Launch) (hst : l.stackTraces = false) (g : az_G) (sa : Nat → Nat) (ax : Nat → Nat) (an : Nat → Nat) (au : Nat → Nat) (aw : Nat → Nat → Nat) (V : az_St) (T : az_St) (S : Nat → az_St) (hs : Nat → Int32) (x1 : Int32) (o : Nat × Int32 × (Nat → az_St) × (Nat → Int32) × (Nat → Int32) × (Nat → Int32)) (h : FX6_takeSnapshot V T S hs x1 = some o) : az_TI l yX6_takeSnapshot wsX6_takeSnapshot ({ frames := 8, cells := 2, slots := 12, locals := 164 } : Room) [.ref (ax 0), .int x1] g sa (az_w6 g ax an au V (az_cV g au T ++ az_cH g ax aw S hs)) o.1 o.2.1 (az_w6 g ax an au (va_up (va_up V 13 o.2.2.2.1) 14 o.2.2.2.2.1) (az_cV g au T ++ az_cH g ax aw o.2.2.1 o.2.2.2.2.2)) 2 := by
  refine az_bodyT (cc := cX6_takeSnapshot) (maxL := 2) (ret := (some .int)) (mc := 2) (ms := 12) (Qc := fun A => az_QTI g (az_w6 g ax an au (va_up (va_up V 13 o.2.2.2.1) 14 o.2.2.2.2.1) (az_cV g au T ++ az_cH g ax aw o.2.2.1 o.2.2.2.2.2)) o.1 o.2.1 A) (XC := fun A => az_XT g (az_w6 g ax an au (va_up (va_up V 13 o.2.2.2.1) 14 o.2.2.2.2.1) (az_cV g au T ++ az_cH g ax aw o.2.2.1 o.2.2.2.2.2)) o.1 A) (by decide +kernel) rfl (Nat.le_of_ble_eq_true rfl) ?_
  intro p e s m args below meth c A hx hb hr hts hown hml hlocks hex hcx hA hK hP hD hS ls hl
  have hl : lv_has ls 2 [(0, .ref (ax 0)), (1, .int x1)] := hl
  unfold FX6_takeSnapshot at h
  refine lv_iload_n hx hb dX6_takeSnapshot_0 rfl (lv_at hl 1 rfl) ?_
  obtain ⟨o1, hc1, h⟩ := az_bnd h
  refine az_callST (As := [.int x1]) (rest := []) ⟨hx, hb, hml, hown, hts⟩ hl.1 (kX6_checkSnapshot l hst g sa x1 o1 hc1) (va_cwS 1 hts gX6_takeSnapshot_X6_checkSnapshot rfl rfl rfl (by decide +kernel) ⟨(Nat.le_of_ble_eq_true rfl), (Nat.le_of_ble_eq_true rfl)⟩) rfl hK hcx hP hS hA (Nat.le_of_ble_eq_true rfl) dX6_takeSnapshot_1 ⟨(Nat.le_of_ble_eq_true rfl), (Nat.le_of_ble_eq_true rfl)⟩ rfl (fun n1 ce q9 H locs hP hS hce hcv hcl => ?_) (fun c1 H locs hP hS => ?_)
  · replace h := az_neg n1 h
    have hP : va_P g.1 az_cl (az_w6 g ax an au (va_up (va_up V 13 (V 13)) 14 (V 14)) (az_cV g au T ++ az_cH g ax aw S hs)) _ := hP
    have hD : va_D A (az_w6 g ax an au (va_up (va_up V 13 (V 13)) 14 (V 14)) (az_cV g au T ++ az_cH g ax aw S hs)) := hD
    rw [← Option.some.inj h]
    exact az_outT n1 hex hlocks hce hcv hcl hK hP hD hS (Nat.le_of_ble_eq_true rfl) (Nat.le_of_ble_eq_true rfl)
  replace h := az_pos c1 h
  refine lv_aload_n hx hb dX6_takeSnapshot_4 rfl (lv_at hl 0 rfl) ?_
  refine va_get (D := g.1) (ci := 6) (v := .ref (an 0)) (C := RX6) (T := TX6) (N := 3) hx hb hts inX6_takeSnapshot_RX6 hown hK hP 0 rfl rfl 0 (Nat.le_of_ble_eq_true rfl) (hts _ (List.mem_of_getElem? (i := 1) rfl)) (fun _ h9 => h9) rfl dX6_takeSnapshot_5 ?_
  refine va_get (D := g.1) (ci := 5) (v := .ref (an 16)) (C := RX5) (T := TX5) (N := 11) hx hb hts inX6_takeSnapshot_RX5 hown hK hP 1 rfl rfl 3 (Nat.le_of_ble_eq_true rfl) (hts _ (List.mem_of_getElem? (i := 2) rfl)) (fun _ h9 => h9) rfl dX6_takeSnapshot_8 ?_
  refine va_get (D := g.1) (ci := 4) (v := .ref (an 17)) (C := RX4) (T := TX4) (N := 2) hx hb hts inX6_takeSnapshot_RX4 hown hK hP 17 rfl rfl 0 (Nat.le_of_ble_eq_true rfl) (hts _ (List.mem_of_getElem? (i := 3) rfl)) (fun _ h9 => h9) rfl dX6_takeSnapshot_11 ?_
  refine lv_iload_n hx hb dX6_takeSnapshot_14 rfl (lv_at hl 1 rfl) ?_
  obtain ⟨i15, h⟩ := az_ite h
  refine va_zald (D := g.1) (f := (V 13)) hx hb hK hP 18 1 rfl rfl (az_vin i15) dX6_takeSnapshot_15 ?_
  refine lv_if_ne (tgt := 23) hx hb dX6_takeSnapshot_16 (by decide) (fun c16 => ?_) (fun c16 => ?_)
  · replace h := az_neg c16 h
    refine lv_iconst (v := (0 : Int32)) hx hb dX6_takeSnapshot_23 (by decide) ?_
    obtain ⟨o24, hc24, h⟩ := az_bnd h
    refine az_callST (As := [.int (0 : Int32)]) (rest := []) ⟨hx, hb, hml, hown, hts⟩ hl.1 (kX6_checkState l hst g sa (0 : Int32) o24 hc24) (va_cwS 1 hts gX6_takeSnapshot_X6_checkState rfl rfl rfl (by decide +kernel) ⟨(Nat.le_of_ble_eq_true rfl), (Nat.le_of_ble_eq_true rfl)⟩) rfl hK hcx hP hS hA (Nat.le_of_ble_eq_true rfl) dX6_takeSnapshot_24 ⟨(Nat.le_of_ble_eq_true rfl), (Nat.le_of_ble_eq_true rfl)⟩ rfl (fun n24 ce q9 H locs hP hS hce hcv hcl => ?_) (fun c24 H locs hP hS => ?_)
    · replace h := az_neg n24 h
      have hP : va_P g.1 az_cl (az_w6 g ax an au (va_up (va_up V 13 (V 13)) 14 (V 14)) (az_cV g au T ++ az_cH g ax aw S hs)) _ := hP
      have hD : va_D A (az_w6 g ax an au (va_up (va_up V 13 (V 13)) 14 (V 14)) (az_cV g au T ++ az_cH g ax aw S hs)) := hD
      rw [← Option.some.inj h]
      exact az_outT n24 hex hlocks hce hcv hcl hK hP hD hS (Nat.le_of_ble_eq_true rfl) (Nat.le_of_ble_eq_true rfl)
    replace h := az_pos c24 h
    refine lv_aload_n hx hb dX6_takeSnapshot_27 rfl (lv_at hl 0 rfl) ?_
    refine va_get (D := g.1) (ci := 6) (v := .ref (ax 1)) (C := RX6) (T := TX6) (N := 3) hx hb hts inX6_takeSnapshot_RX6 hown hK hP 0 rfl rfl 2 (Nat.le_of_ble_eq_true rfl) (hts _ (List.mem_of_getElem? (i := 4) rfl)) (fun _ h9 => h9) rfl dX6_takeSnapshot_28 ?_
    refine lv_aload_n hx hb dX6_takeSnapshot_31 rfl (lv_at hl 0 rfl) ?_
    refine va_get (D := g.1) (ci := 6) (v := .ref (an 0)) (C := RX6) (T := TX6) (N := 3) hx hb hts inX6_takeSnapshot_RX6 hown hK hP 0 rfl rfl 0 (Nat.le_of_ble_eq_true rfl) (hts _ (List.mem_of_getElem? (i := 1) rfl)) (fun _ h9 => h9) rfl dX6_takeSnapshot_32 ?_
    obtain ⟨o35, hc35, h⟩ := az_bnd h
    refine az_callPv (w2 := az_w6 g ax an au V (az_cV g au T ++ az_cH g ax aw o35.1 o35.2)) (As := [.ref (an 0)]) (rest := []) ⟨hx, hb, hml, hown, hts⟩ hl.1 (kX1_save l g ax an aw S hs V o35 hc35) (cwV 1 hts gX6_takeSnapshot_X1_save rfl rfl rfl (by decide +kernel) ⟨(Nat.le_of_ble_eq_true rfl), (Nat.le_of_ble_eq_true rfl)⟩) rfl hK hP hD hS hA (az_pH (az_x ax an au) (az_cV g an V) (az_cV g au T) (az_cH g ax aw S hs)) (az_pH (az_x ax an au) (az_cV g an V) (az_cV g au T) (az_cH g ax aw o35.1 o35.2)).symm 0 rfl rfl rfl (Nat.le_of_ble_eq_true rfl) dX6_takeSnapshot_35 ⟨(Nat.le_of_ble_eq_true rfl), (Nat.le_of_ble_eq_true rfl)⟩ rfl (fun H locs hP hD hS => ?_)
    have hP : va_P g.1 az_cl (az_w6 g ax an au V (az_cV g au T ++ az_cH g ax aw o35.1 o35.2)) _ := hP
    have hD : va_D A (az_w6 g ax an au V (az_cV g au T ++ az_cH g ax aw o35.1 o35.2)) := hD
    refine lv_aload_n hx hb dX6_takeSnapshot_38 rfl (lv_at hl 0 rfl) ?_
    refine va_get (D := g.1) (ci := 6) (v := .ref (an 0)) (C := RX6) (T := TX6) (N := 3) hx hb hts inX6_takeSnapshot_RX6 hown hK hP 0 rfl rfl 0 (Nat.le_of_ble_eq_true rfl) (hts _ (List.mem_of_getElem? (i := 1) rfl)) (fun _ h9 => h9) rfl dX6_takeSnapshot_39 ?_
    refine va_get (D := g.1) (ci := 5) (v := .ref (an 16)) (C := RX5) (T := TX5) (N := 11) hx hb hts inX6_takeSnapshot_RX5 hown hK hP 1 rfl rfl 3 (Nat.le_of_ble_eq_true rfl) (hts _ (List.mem_of_getElem? (i := 2) rfl)) (fun _ h9 => h9) rfl dX6_takeSnapshot_42 ?_
    refine lv_iload_n hx hb dX6_takeSnapshot_45 rfl (lv_at hl 1 rfl) ?_
    refine lv_aload_n hx hb dX6_takeSnapshot_46 rfl (lv_at hl 0 rfl) ?_
    refine va_get (D := g.1) (ci := 6) (v := .ref (an 0)) (C := RX6) (T := TX6) (N := 3) hx hb hts inX6_takeSnapshot_RX6 hown hK hP 0 rfl rfl 0 (Nat.le_of_ble_eq_true rfl) (hts _ (List.mem_of_getElem? (i := 1) rfl)) (fun _ h9 => h9) rfl dX6_takeSnapshot_47 ?_
    refine va_get (D := g.1) (ci := 5) (v := .ref (an 19)) (C := RX5) (T := TX5) (N := 11) hx hb hts inX6_takeSnapshot_RX5 hown hK hP 1 rfl rfl 4 (Nat.le_of_ble_eq_true rfl) (hts _ (List.mem_of_getElem? (i := 5) rfl)) (fun _ h9 => h9) rfl dX6_takeSnapshot_50 ?_
    obtain ⟨o53, hc53, h⟩ := az_bnd h
    refine az_callPi (w2 := az_w6 g ax an au (va_up (va_up V 13 o53.2.1) 14 o53.2.2) (az_cV g au T ++ az_cH g ax aw o35.1 o35.2)) (As := [.int x1, .ref (an 19)]) (rest := []) ⟨hx, hb, hml, hown, hts⟩ hl.1 (kX4_take l g an V x1 o53 hc53) (cwV 2 hts gX6_takeSnapshot_X4_take rfl rfl rfl (by decide +kernel) ⟨(Nat.le_of_ble_eq_true rfl), (Nat.le_of_ble_eq_true rfl)⟩) rfl hK hP hD hS hA (az_pm (az_x ax an au :: (az_cV g an V).take 16) (az_cPL g an V) ((az_cV g an V).drop 20 ++ (az_cV g au T ++ az_cH g ax aw o35.1 o35.2))) (az_pm (az_x ax an au :: (az_cV g an V).take 16) (az_cPL g an (va_up (va_up V 13 o53.2.1) 14 o53.2.2)) ((az_cV g an V).drop 20 ++ (az_cV g au T ++ az_cH g ax aw o35.1 o35.2))).symm 0 rfl rfl rfl (Nat.le_of_ble_eq_true rfl) dX6_takeSnapshot_53 ⟨(Nat.le_of_ble_eq_true rfl), (Nat.le_of_ble_eq_true rfl)⟩ rfl (fun H locs hP hD hS => ?_)
    have hP : va_P g.1 az_cl (az_w6 g ax an au (va_up (va_up V 13 o53.2.1) 14 o53.2.2) (az_cV g au T ++ az_cH g ax aw o35.1 o35.2)) _ := hP
    have hD : va_D A (az_w6 g ax an au (va_up (va_up V 13 o53.2.1) 14 o53.2.2) (az_cV g au T ++ az_cH g ax aw o35.1 o35.2)) := hD
    have hP : va_P g.1 az_cl (az_w6 g ax an au (va_up (va_up V 13 o53.2.1) 14 o53.2.2) (az_cV g au T ++ az_cH g ax aw o35.1 o35.2)) _ := hP
    have hD : va_D A (az_w6 g ax an au (va_up (va_up V 13 o53.2.1) 14 o53.2.2) (az_cV g au T ++ az_cH g ax aw o35.1 o35.2)) := hD
    rw [← Option.some.inj h]
    exact az_iretT hx hb hr hlocks hK hP hD hS dX6_takeSnapshot_56 (Nat.le_of_ble_eq_true rfl) (Nat.le_of_ble_eq_true rfl)
  · replace h := az_pos c16 h
    refine lv_iconst (v := (1 : Int32)) hx hb dX6_takeSnapshot_19 (by decide) ?_
    refine lv_goto (tgt := 24) hx hb dX6_takeSnapshot_20 (by decide) ?_
    obtain ⟨o24, hc24, h⟩ := az_bnd h
    refine az_callST (As := [.int (1 : Int32)]) (rest := []) ⟨hx, hb, hml, hown, hts⟩ hl.1 (kX6_checkState l hst g sa (1 : Int32) o24 hc24) (va_cwS 1 hts gX6_takeSnapshot_X6_checkState rfl rfl rfl (by decide +kernel) ⟨(Nat.le_of_ble_eq_true rfl), (Nat.le_of_ble_eq_true rfl)⟩) rfl hK hcx hP hS hA (Nat.le_of_ble_eq_true rfl) dX6_takeSnapshot_24 ⟨(Nat.le_of_ble_eq_true rfl), (Nat.le_of_ble_eq_true rfl)⟩ rfl (fun n24 ce q9 H locs hP hS hce hcv hcl => ?_) (fun c24 H locs hP hS => ?_)
    · replace h := az_neg n24 h
      have hP : va_P g.1 az_cl (az_w6 g ax an au (va_up (va_up V 13 (V 13)) 14 (V 14)) (az_cV g au T ++ az_cH g ax aw S hs)) _ := hP
      have hD : va_D A (az_w6 g ax an au (va_up (va_up V 13 (V 13)) 14 (V 14)) (az_cV g au T ++ az_cH g ax aw S hs)) := hD
      rw [← Option.some.inj h]
      exact az_outT n24 hex hlocks hce hcv hcl hK hP hD hS (Nat.le_of_ble_eq_true rfl) (Nat.le_of_ble_eq_true rfl)
    replace h := az_pos c24 h
    refine lv_aload_n hx hb dX6_takeSnapshot_27 rfl (lv_at hl 0 rfl) ?_
    refine va_get (D := g.1) (ci := 6) (v := .ref (ax 1)) (C := RX6) (T := TX6) (N := 3) hx hb hts inX6_takeSnapshot_RX6 hown hK hP 0 rfl rfl 2 (Nat.le_of_ble_eq_true rfl) (hts _ (List.mem_of_getElem? (i := 4) rfl)) (fun _ h9 => h9) rfl dX6_takeSnapshot_28 ?_
    refine lv_aload_n hx hb dX6_takeSnapshot_31 rfl (lv_at hl 0 rfl) ?_
    refine va_get (D := g.1) (ci := 6) (v := .ref (an 0)) (C := RX6) (T := TX6) (N := 3) hx hb hts inX6_takeSnapshot_RX6 hown hK hP 0 rfl rfl 0 (Nat.le_of_ble_eq_true rfl) (hts _ (List.mem_of_getElem? (i := 1) rfl)) (fun _ h9 => h9) rfl dX6_takeSnapshot_32 ?_
    obtain ⟨o35, hc35, h⟩ := az_bnd h
    refine az_callPv (w2 := az_w6 g ax an au V (az_cV g au T ++ az_cH g ax aw o35.1 o35.2)) (As := [.ref (an 0)]) (rest := []) ⟨hx, hb, hml, hown, hts⟩ hl.1 (kX1_save l g ax an aw S hs V o35 hc35) (cwV 1 hts gX6_takeSnapshot_X1_save rfl rfl rfl (by decide +kernel) ⟨(Nat.le_of_ble_eq_true rfl), (Nat.le_of_ble_eq_true rfl)⟩) rfl hK hP hD hS hA (az_pH (az_x ax an au) (az_cV g an V) (az_cV g au T) (az_cH g ax aw S hs)) (az_pH (az_x ax an au) (az_cV g an V) (az_cV g au T) (az_cH g ax aw o35.1 o35.2)).symm 0 rfl rfl rfl (Nat.le_of_ble_eq_true rfl) dX6_takeSnapshot_35 ⟨(Nat.le_of_ble_eq_true rfl), (Nat.le_of_ble_eq_true rfl)⟩ rfl (fun H locs hP hD hS => ?_)
    have hP : va_P g.1 az_cl (az_w6 g ax an au V (az_cV g au T ++ az_cH g ax aw o35.1 o35.2)) _ := hP
    have hD : va_D A (az_w6 g ax an au V (az_cV g au T ++ az_cH g ax aw o35.1 o35.2)) := hD
    refine lv_aload_n hx hb dX6_takeSnapshot_38 rfl (lv_at hl 0 rfl) ?_
    refine va_get (D := g.1) (ci := 6) (v := .ref (an 0)) (C := RX6) (T := TX6) (N := 3) hx hb hts inX6_takeSnapshot_RX6 hown hK hP 0 rfl rfl 0 (Nat.le_of_ble_eq_true rfl) (hts _ (List.mem_of_getElem? (i := 1) rfl)) (fun _ h9 => h9) rfl dX6_takeSnapshot_39 ?_
    refine va_get (D := g.1) (ci := 5) (v := .ref (an 16)) (C := RX5) (T := TX5) (N := 11) hx hb hts inX6_takeSnapshot_RX5 hown hK hP 1 rfl rfl 3 (Nat.le_of_ble_eq_true rfl) (hts _ (List.mem_of_getElem? (i := 2) rfl)) (fun _ h9 => h9) rfl dX6_takeSnapshot_42 ?_
    refine lv_iload_n hx hb dX6_takeSnapshot_45 rfl (lv_at hl 1 rfl) ?_
    refine lv_aload_n hx hb dX6_takeSnapshot_46 rfl (lv_at hl 0 rfl) ?_
    refine va_get (D := g.1) (ci := 6) (v := .ref (an 0)) (C := RX6) (T := TX6) (N := 3) hx hb hts inX6_takeSnapshot_RX6 hown hK hP 0 rfl rfl 0 (Nat.le_of_ble_eq_true rfl) (hts _ (List.mem_of_getElem? (i := 1) rfl)) (fun _ h9 => h9) rfl dX6_takeSnapshot_47 ?_
    refine va_get (D := g.1) (ci := 5) (v := .ref (an 19)) (C := RX5) (T := TX5) (N := 11) hx hb hts inX6_takeSnapshot_RX5 hown hK hP 1 rfl rfl 4 (Nat.le_of_ble_eq_true rfl) (hts _ (List.mem_of_getElem? (i := 5) rfl)) (fun _ h9 => h9) rfl dX6_takeSnapshot_50 ?_
    obtain ⟨o53, hc53, h⟩ := az_bnd h
    refine az_callPi (w2 := az_w6 g ax an au (va_up (va_up V 13 o53.2.1) 14 o53.2.2) (az_cV g au T ++ az_cH g ax aw o35.1 o35.2)) (As := [.int x1, .ref (an 19)]) (rest := []) ⟨hx, hb, hml, hown, hts⟩ hl.1 (kX4_take l g an V x1 o53 hc53) (cwV 2 hts gX6_takeSnapshot_X4_take rfl rfl rfl (by decide +kernel) ⟨(Nat.le_of_ble_eq_true rfl), (Nat.le_of_ble_eq_true rfl)⟩) rfl hK hP hD hS hA (az_pm (az_x ax an au :: (az_cV g an V).take 16) (az_cPL g an V) ((az_cV g an V).drop 20 ++ (az_cV g au T ++ az_cH g ax aw o35.1 o35.2))) (az_pm (az_x ax an au :: (az_cV g an V).take 16) (az_cPL g an (va_up (va_up V 13 o53.2.1) 14 o53.2.2)) ((az_cV g an V).drop 20 ++ (az_cV g au T ++ az_cH g ax aw o35.1 o35.2))).symm 0 rfl rfl rfl (Nat.le_of_ble_eq_true rfl) dX6_takeSnapshot_53 ⟨(Nat.le_of_ble_eq_true rfl), (Nat.le_of_ble_eq_true rfl)⟩ rfl (fun H locs hP hD hS => ?_)
    have hP : va_P g.1 az_cl (az_w6 g ax an au (va_up (va_up V 13 o53.2.1) 14 o53.2.2) (az_cV g au T ++ az_cH g ax aw o35.1 o35.2)) _ := hP
    have hD : va_D A (az_w6 g ax an au (va_up (va_up V 13 o53.2.1) 14 o53.2.2) (az_cV g au T ++ az_cH g ax aw o35.1 o35.2)) := hD
    have hP : va_P g.1 az_cl (az_w6 g ax an au (va_up (va_up V 13 o53.2.1) 14 o53.2.2) (az_cV g au T ++ az_cH g ax aw o35.1 o35.2)) _ := hP
    have hD : va_D A (az_w6 g ax an au (va_up (va_up V 13 o53.2.1) 14 o53.2.2) (az_cV g au T ++ az_cH g ax aw o35.1 o35.2)) := hD
    rw [← Option.some.inj h]
    exact az_iretT hx hb hr hlocks hK hP hD hS dX6_takeSnapshot_56 (Nat.le_of_ble_eq_true rfl) (Nat.le_of_ble_eq_true rfl)

def FX6_checkTaken (V : az_St) (x1 : Int32) : Option (Nat) := (FX6_checkSnapshot x1).bind (fun o1 => if o1 = 0 then (if az_in x1 4 = true then (FX6_checkState ((V 13) x1.toNatClampNeg)).bind (fun o16 => if o16 = 0 then (some (0)) else some o16) else none) else some o1)
theorem inX6_checkTaken_RX4 : ∀ w ∈ wsX40, w ∈ wsX6_checkTaken := az_inr [35, 36] (by decide +kernel)
theorem inX6_checkTaken_RX5 : ∀ w ∈ wsX50, w ∈ wsX6_checkTaken := az_inr [24, 25, 26, 27, 28, 29, 30, 31, 32, 33, 34] (by decide +kernel)
theorem inX6_checkTaken_RX6 : ∀ w ∈ wsX60, w ∈ wsX6_checkTaken := az_inr [21, 22, 23] (by decide +kernel)
set_option maxHeartbeats 4000000 in
set_option maxRecDepth 100000 in
theorem kX6_checkTaken (l : Launch) (hst : l.stackTraces = false) (g : az_G) (sa : Nat → Nat) (ax : Nat → Nat) (an : Nat → Nat) (au : Nat → Nat) (Y : va_W) (V : az_St) (x1 : Int32) (o : Nat) (h : FX6_checkTaken V x1 = some o) : az_TV l yX6_checkTaken wsX6_checkTaken ({ frames := 8, cells := 2, slots := 12, locals := 140 } : Room) [.ref (ax 0), .int x1] g sa (az_w6 g ax an au V Y) o (az_w6 g ax an au V Y) 2 := by
  refine az_bodyT (cc := cX6_checkTaken) (maxL := 2) (ret := none) (mc := 2) (ms := 12) (Qc := fun A => az_QTV g (az_w6 g ax an au V Y) o A) (XC := fun A => az_XT g (az_w6 g ax an au V Y) o A) (by decide +kernel) rfl (Nat.le_of_ble_eq_true rfl) ?_
  intro p e s m args below meth c A hx hb hr hts hown hml hlocks hex hcx hA hK hP hD hS ls hl
  have hl : lv_has ls 2 [(0, .ref (ax 0)), (1, .int x1)] := hl
  unfold FX6_checkTaken at h
  refine lv_iload_n hx hb dX6_checkTaken_0 rfl (lv_at hl 1 rfl) ?_
  obtain ⟨o1, hc1, h⟩ := az_bnd h
  refine az_callST (As := [.int x1]) (rest := []) ⟨hx, hb, hml, hown, hts⟩ hl.1 (kX6_checkSnapshot l hst g sa x1 o1 hc1) (va_cwS 1 hts gX6_checkTaken_X6_checkSnapshot rfl rfl rfl (by decide +kernel) ⟨(Nat.le_of_ble_eq_true rfl), (Nat.le_of_ble_eq_true rfl)⟩) rfl hK hcx hP hS hA (Nat.le_of_ble_eq_true rfl) dX6_checkTaken_1 ⟨(Nat.le_of_ble_eq_true rfl), (Nat.le_of_ble_eq_true rfl)⟩ rfl (fun n1 ce q9 H locs hP hS hce hcv hcl => ?_) (fun c1 H locs hP hS => ?_)
  · replace h := az_neg n1 h
    have hP : va_P g.1 az_cl (az_w6 g ax an au V Y) _ := hP
    have hD : va_D A (az_w6 g ax an au V Y) := hD
    rw [← Option.some.inj h]
    exact az_outT n1 hex hlocks hce hcv hcl hK hP hD hS (Nat.le_of_ble_eq_true rfl) (Nat.le_of_ble_eq_true rfl)
  replace h := az_pos c1 h
  refine lv_aload_n hx hb dX6_checkTaken_4 rfl (lv_at hl 0 rfl) ?_
  refine va_get (D := g.1) (ci := 6) (v := .ref (an 0)) (C := RX6) (T := TX6) (N := 3) hx hb hts inX6_checkTaken_RX6 hown hK hP 0 rfl rfl 0 (Nat.le_of_ble_eq_true rfl) (hts _ (List.mem_of_getElem? (i := 1) rfl)) (fun _ h9 => h9) rfl dX6_checkTaken_5 ?_
  refine va_get (D := g.1) (ci := 5) (v := .ref (an 16)) (C := RX5) (T := TX5) (N := 11) hx hb hts inX6_checkTaken_RX5 hown hK hP 1 rfl rfl 3 (Nat.le_of_ble_eq_true rfl) (hts _ (List.mem_of_getElem? (i := 2) rfl)) (fun _ h9 => h9) rfl dX6_checkTaken_8 ?_
  refine va_get (D := g.1) (ci := 4) (v := .ref (an 17)) (C := RX4) (T := TX4) (N := 2) hx hb hts inX6_checkTaken_RX4 hown hK hP 17 rfl rfl 0 (Nat.le_of_ble_eq_true rfl) (hts _ (List.mem_of_getElem? (i := 3) rfl)) (fun _ h9 => h9) rfl dX6_checkTaken_11 ?_
  refine lv_iload_n hx hb dX6_checkTaken_14 rfl (lv_at hl 1 rfl) ?_
  obtain ⟨i15, h⟩ := az_ite h
  refine va_zald (D := g.1) (f := (V 13)) hx hb hK hP 18 1 rfl rfl (az_vin i15) dX6_checkTaken_15 ?_
  obtain ⟨o16, hc16, h⟩ := az_bnd h
  refine az_callST (As := [.int ((V 13) x1.toNatClampNeg)]) (rest := []) ⟨hx, hb, hml, hown, hts⟩ hl.1 (kX6_checkState l hst g sa ((V 13) x1.toNatClampNeg) o16 hc16) (va_cwS 1 hts gX6_checkTaken_X6_checkState rfl rfl rfl (by decide +kernel) ⟨(Nat.le_of_ble_eq_true rfl), (Nat.le_of_ble_eq_true rfl)⟩) rfl hK hcx hP hS hA (Nat.le_of_ble_eq_true rfl) dX6_checkTaken_16 ⟨(Nat.le_of_ble_eq_true rfl), (Nat.le_of_ble_eq_true rfl)⟩ rfl (fun n16 ce q9 H locs hP hS hce hcv hcl => ?_) (fun c16 H locs hP hS => ?_)
  · replace h := az_neg n16 h
    have hP : va_P g.1 az_cl (az_w6 g ax an au V Y) _ := hP
    have hD : va_D A (az_w6 g ax an au V Y) := hD
    rw [← Option.some.inj h]
    exact az_outT n16 hex hlocks hce hcv hcl hK hP hD hS (Nat.le_of_ble_eq_true rfl) (Nat.le_of_ble_eq_true rfl)
  replace h := az_pos c16 h
  have hP : va_P g.1 az_cl (az_w6 g ax an au V Y) _ := hP
  have hD : va_D A (az_w6 g ax an au V Y) := hD
  rw [← Option.some.inj h]
  exact az_vretT hx hb hr hlocks hK hP hD hS dX6_checkTaken_19 (Nat.le_of_ble_eq_true rfl) (Nat.le_of_ble_eq_true rfl)

def FX6_dropSnapshot (V : az_St) (T : az_St) (S : Nat → az_St) (hs : Nat → Int32) (x1 : Int32) : Option (Nat × Int32 × (Nat → az_St) × (Nat → Int32) × (Nat → Int32) × (Nat → Int32) × (Nat → Int32) × (Nat → Int32)) := (FX6_checkTaken V x1).bind (fun o2 => if o2 = 0 then ((FX1_save S hs V).bind (fun o13 => (FX5_forgetSnapshot V x1).bind (fun o21 => some (0, o21.1, o13.1, o21.2.1, o21.2.2.1, o21.2.2.2.1, o21.2.2.2.2, o13.2)))) else some (o2, (0 : Int32), S, (V 5), (V 9), (V 13), (V 14), hs))
theorem inX6_dropSnapshot_RX6 : ∀ w ∈ wsX60, w ∈ wsX6_dropSnapshot := az_inr [128, 129, 130] (by decide +kernel)
set_option maxHeartbeats 4000000 in
set_option maxRecDepth 100000 in
theorem kX6_dropSnapshot (l : Launch) (hst : l.stackTraces = false) (g : az_G) (sa : Nat → Nat) (ax : Nat → Nat) (an : Nat → Nat) (au : Nat → Nat) (aw : Nat → Nat → Nat) (V : az_St) (T : az_St) (S : Nat → az_St) (hs : Nat → Int32) (x1 : Int32) (o : Nat × Int32 × (Nat → az_St) × (Nat → Int32) × (Nat → Int32) × (Nat → Int32) × (Nat → Int32) × (Nat → Int32)) (h : FX6_dropSnapshot V T S hs x1 = some o) : az_TI l yX6_dropSnapshot wsX6_dropSnapshot ({ frames := 9, cells := 2, slots := 12, locals := 164 } : Room) [.ref (ax 0), .int x1] g sa (az_w6 g ax an au V (az_cV g au T ++ az_cH g ax aw S hs)) o.1 o.2.1 (az_w6 g ax an au (va_up (va_up (va_up (va_up V 5 o.2.2.2.1) 9 o.2.2.2.2.1) 13 o.2.2.2.2.2.1) 14 o.2.2.2.2.2.2.1) (az_cV g au T ++ az_cH g ax aw o.2.2.1 o.2.2.2.2.2.2.2)) 2 := by
  refine az_bodyT (cc := cX6_dropSnapshot) (maxL := 2) (ret := (some .int)) (mc := 2) (ms := 12) (Qc := fun A => az_QTI g (az_w6 g ax an au (va_up (va_up (va_up (va_up V 5 o.2.2.2.1) 9 o.2.2.2.2.1) 13 o.2.2.2.2.2.1) 14 o.2.2.2.2.2.2.1) (az_cV g au T ++ az_cH g ax aw o.2.2.1 o.2.2.2.2.2.2.2)) o.1 o.2.1 A) (XC := fun A => az_XT g (az_w6 g ax an au (va_up (va_up (va_up (va_up V 5 o.2.2.2.1) 9 o.2.2.2.2.1) 13 o.2.2.2.2.2.1) 14 o.2.2.2.2.2.2.1) (az_cV g au T ++ az_cH g ax aw o.2.2.1 o.2.2.2.2.2.2.2)) o.1 A) (by decide +kernel) rfl (Nat.le_of_ble_eq_true rfl) ?_
  intro p e s m args below meth c A hx hb hr hts hown hml hlocks hex hcx hA hK hP hD hS ls hl
  have hl : lv_has ls 2 [(0, .ref (ax 0)), (1, .int x1)] := hl
  unfold FX6_dropSnapshot at h
  refine lv_aload_n hx hb dX6_dropSnapshot_0 rfl (lv_at hl 0 rfl) ?_
  refine lv_iload_n hx hb dX6_dropSnapshot_1 rfl (lv_at hl 1 rfl) ?_
  obtain ⟨o2, hc2, h⟩ := az_bnd h
  refine az_callVT (As := [.int x1]) (rest := []) ⟨hx, hb, hml, hown, hts⟩ hl.1 (kX6_checkTaken l hst g sa ax an au (az_cV g au T ++ az_cH g ax aw S hs) V x1 o2 hc2) (cwV 1 hts gX6_dropSnapshot_X6_checkTaken rfl rfl rfl (by decide +kernel) ⟨(Nat.le_of_ble_eq_true rfl), (Nat.le_of_ble_eq_true rfl)⟩) rfl hK hcx hP hD hS hA 0 rfl rfl rfl (Nat.le_of_ble_eq_true rfl) dX6_dropSnapshot_2 ⟨(Nat.le_of_ble_eq_true rfl), (Nat.le_of_ble_eq_true rfl)⟩ rfl (fun n2 ce q9 H locs hP hS hce hcv hcl => ?_) (fun c2 H locs hP hS => ?_)
  · replace h := az_neg n2 h
    have hP : va_P g.1 az_cl (az_w6 g ax an au (va_up (va_up (va_up (va_up V 5 (V 5)) 9 (V 9)) 13 (V 13)) 14 (V 14)) (az_cV g au T ++ az_cH g ax aw S hs)) _ := hP
    have hD : va_D A (az_w6 g ax an au (va_up (va_up (va_up (va_up V 5 (V 5)) 9 (V 9)) 13 (V 13)) 14 (V 14)) (az_cV g au T ++ az_cH g ax aw S hs)) := hD
    rw [← Option.some.inj h]
    exact az_outT n2 hex hlocks hce hcv hcl hK hP hD hS (Nat.le_of_ble_eq_true rfl) (Nat.le_of_ble_eq_true rfl)
  replace h := az_pos c2 h
  refine lv_aload_n hx hb dX6_dropSnapshot_5 rfl (lv_at hl 0 rfl) ?_
  refine va_get (D := g.1) (ci := 6) (v := .ref (ax 1)) (C := RX6) (T := TX6) (N := 3) hx hb hts inX6_dropSnapshot_RX6 hown hK hP 0 rfl rfl 2 (Nat.le_of_ble_eq_true rfl) (hts _ (List.mem_of_getElem? (i := 1) rfl)) (fun _ h9 => h9) rfl dX6_dropSnapshot_6 ?_
  refine lv_aload_n hx hb dX6_dropSnapshot_9 rfl (lv_at hl 0 rfl) ?_
  refine va_get (D := g.1) (ci := 6) (v := .ref (an 0)) (C := RX6) (T := TX6) (N := 3) hx hb hts inX6_dropSnapshot_RX6 hown hK hP 0 rfl rfl 0 (Nat.le_of_ble_eq_true rfl) (hts _ (List.mem_of_getElem? (i := 2) rfl)) (fun _ h9 => h9) rfl dX6_dropSnapshot_10 ?_
  obtain ⟨o13, hc13, h⟩ := az_bnd h
  refine az_callPv (w2 := az_w6 g ax an au V (az_cV g au T ++ az_cH g ax aw o13.1 o13.2)) (As := [.ref (an 0)]) (rest := []) ⟨hx, hb, hml, hown, hts⟩ hl.1 (kX1_save l g ax an aw S hs V o13 hc13) (cwV 1 hts gX6_dropSnapshot_X1_save rfl rfl rfl (by decide +kernel) ⟨(Nat.le_of_ble_eq_true rfl), (Nat.le_of_ble_eq_true rfl)⟩) rfl hK hP hD hS hA (az_pH (az_x ax an au) (az_cV g an V) (az_cV g au T) (az_cH g ax aw S hs)) (az_pH (az_x ax an au) (az_cV g an V) (az_cV g au T) (az_cH g ax aw o13.1 o13.2)).symm 0 rfl rfl rfl (Nat.le_of_ble_eq_true rfl) dX6_dropSnapshot_13 ⟨(Nat.le_of_ble_eq_true rfl), (Nat.le_of_ble_eq_true rfl)⟩ rfl (fun H locs hP hD hS => ?_)
  have hP : va_P g.1 az_cl (az_w6 g ax an au V (az_cV g au T ++ az_cH g ax aw o13.1 o13.2)) _ := hP
  have hD : va_D A (az_w6 g ax an au V (az_cV g au T ++ az_cH g ax aw o13.1 o13.2)) := hD
  refine lv_aload_n hx hb dX6_dropSnapshot_16 rfl (lv_at hl 0 rfl) ?_
  refine va_get (D := g.1) (ci := 6) (v := .ref (an 0)) (C := RX6) (T := TX6) (N := 3) hx hb hts inX6_dropSnapshot_RX6 hown hK hP 0 rfl rfl 0 (Nat.le_of_ble_eq_true rfl) (hts _ (List.mem_of_getElem? (i := 2) rfl)) (fun _ h9 => h9) rfl dX6_dropSnapshot_17 ?_
  refine lv_iload_n hx hb dX6_dropSnapshot_20 rfl (lv_at hl 1 rfl) ?_
  obtain ⟨o21, hc21, h⟩ := az_bnd h
  refine az_callPi (w2 := az_w6 g ax an au (va_up (va_up (va_up (va_up V 5 o21.2.1) 9 o21.2.2.1) 13 o21.2.2.2.1) 14 o21.2.2.2.2) (az_cV g au T ++ az_cH g ax aw o13.1 o13.2)) (As := [.int x1]) (rest := []) ⟨hx, hb, hml, hown, hts⟩ hl.1 (kX5_forgetSnapshot l g an V x1 o21 hc21) (cwV 1 hts gX6_dropSnapshot_X5_forgetSnapshot rfl rfl rfl (by decide +kernel) ⟨(Nat.le_of_ble_eq_true rfl), (Nat.le_of_ble_eq_true rfl)⟩) rfl hK hP hD hS hA (az_pm (az_x ax an au :: (az_cV g an V).take 0) (az_cV g an V) ((az_cV g an V).drop 20 ++ (az_cV g au T ++ az_cH g ax aw o13.1 o13.2))) (az_pm (az_x ax an au :: (az_cV g an V).take 0) (az_cV g an (va_up (va_up (va_up (va_up V 5 o21.2.1) 9 o21.2.2.1) 13 o21.2.2.2.1) 14 o21.2.2.2.2)) ((az_cV g an V).drop 20 ++ (az_cV g au T ++ az_cH g ax aw o13.1 o13.2))).symm 0 rfl rfl rfl (Nat.le_of_ble_eq_true rfl) dX6_dropSnapshot_21 ⟨(Nat.le_of_ble_eq_true rfl), (Nat.le_of_ble_eq_true rfl)⟩ rfl (fun H locs hP hD hS => ?_)
  have hP : va_P g.1 az_cl (az_w6 g ax an au (va_up (va_up (va_up (va_up V 5 o21.2.1) 9 o21.2.2.1) 13 o21.2.2.2.1) 14 o21.2.2.2.2) (az_cV g au T ++ az_cH g ax aw o13.1 o13.2)) _ := hP
  have hD : va_D A (az_w6 g ax an au (va_up (va_up (va_up (va_up V 5 o21.2.1) 9 o21.2.2.1) 13 o21.2.2.2.1) 14 o21.2.2.2.2) (az_cV g au T ++ az_cH g ax aw o13.1 o13.2)) := hD
  have hP : va_P g.1 az_cl (az_w6 g ax an au (va_up (va_up (va_up (va_up V 5 o21.2.1) 9 o21.2.2.1) 13 o21.2.2.2.1) 14 o21.2.2.2.2) (az_cV g au T ++ az_cH g ax aw o13.1 o13.2)) _ := hP
  have hD : va_D A (az_w6 g ax an au (va_up (va_up (va_up (va_up V 5 o21.2.1) 9 o21.2.2.1) 13 o21.2.2.2.1) 14 o21.2.2.2.2) (az_cV g au T ++ az_cH g ax aw o13.1 o13.2)) := hD
  rw [← Option.some.inj h]
  exact az_iretT hx hb hr hlocks hK hP hD hS dX6_dropSnapshot_24 (Nat.le_of_ble_eq_true rfl) (Nat.le_of_ble_eq_true rfl)

def FX6_rollBack (V : az_St) (T : az_St) (S : Nat → az_St) (hs : Nat → Int32) (x1 : Int32) : Option (Nat × Int32 × (Nat → az_St) × (Nat → Int32) × (Nat → Int32) × (Nat → Int32) × (Nat → Int32)) := (FX6_checkTaken V x1).bind (fun o2 => if o2 = 0 then ((FX1_save S hs V).bind (fun o13 => (FX5_returnTo V x1).bind (fun o21 => some (0, o21.1, o13.1, o21.2.1, o21.2.2.1, o21.2.2.2, o13.2)))) else some (o2, (0 : Int32), S, (V 5), (V 9), (V 15), hs))
theorem inX6_rollBack_RX6 : ∀ w ∈ wsX60, w ∈ wsX6_rollBack := az_inr [128, 129, 130] (by decide +kernel)
set_option maxHeartbeats 4000000 in
set_option maxRecDepth 100000 in
theorem kX6_rollBack (l : Launch) (hst : l.stackTraces = false) (g : az_G) (sa : Nat → Nat) (ax : Nat → Nat) (an : Nat → Nat) (au : Nat → Nat) (aw : Nat → Nat → Nat) (V : az_St) (T : az_St) (S : Nat → az_St) (hs : Nat → Int32) (x1 : Int32) (o : Nat × Int32 × (Nat → az_St) × (Nat → Int32) × (Nat → Int32) × (Nat → Int32) × (Nat → Int32)) (h : FX6_rollBack V T S hs x1 = some o) : az_TI l yX6_rollBack wsX6_rollBack ({ frames := 9, cells := 2, slots := 12, locals := 164 } : Room) [.ref (ax 0), .int x1] g sa (az_w6 g ax an au V (az_cV g au T ++ az_cH g ax aw S hs)) o.1 o.2.1 (az_w6 g ax an au (va_up (va_up (va_up V 5 o.2.2.2.1) 9 o.2.2.2.2.1) 15 o.2.2.2.2.2.1) (az_cV g au T ++ az_cH g ax aw o.2.2.1 o.2.2.2.2.2.2)) 2 := by
  refine az_bodyT (cc := cX6_rollBack) (maxL := 2) (ret := (some .int)) (mc := 2) (ms := 12) (Qc := fun A => az_QTI g (az_w6 g ax an au (va_up (va_up (va_up V 5 o.2.2.2.1) 9 o.2.2.2.2.1) 15 o.2.2.2.2.2.1) (az_cV g au T ++ az_cH g ax aw o.2.2.1 o.2.2.2.2.2.2)) o.1 o.2.1 A) (XC := fun A => az_XT g (az_w6 g ax an au (va_up (va_up (va_up V 5 o.2.2.2.1) 9 o.2.2.2.2.1) 15 o.2.2.2.2.2.1) (az_cV g au T ++ az_cH g ax aw o.2.2.1 o.2.2.2.2.2.2)) o.1 A) (by decide +kernel) rfl (Nat.le_of_ble_eq_true rfl) ?_
  intro p e s m args below meth c A hx hb hr hts hown hml hlocks hex hcx hA hK hP hD hS ls hl
  have hl : lv_has ls 2 [(0, .ref (ax 0)), (1, .int x1)] := hl
  unfold FX6_rollBack at h
  refine lv_aload_n hx hb dX6_rollBack_0 rfl (lv_at hl 0 rfl) ?_
  refine lv_iload_n hx hb dX6_rollBack_1 rfl (lv_at hl 1 rfl) ?_
  obtain ⟨o2, hc2, h⟩ := az_bnd h
  refine az_callVT (As := [.int x1]) (rest := []) ⟨hx, hb, hml, hown, hts⟩ hl.1 (kX6_checkTaken l hst g sa ax an au (az_cV g au T ++ az_cH g ax aw S hs) V x1 o2 hc2) (cwV 1 hts gX6_rollBack_X6_checkTaken rfl rfl rfl (by decide +kernel) ⟨(Nat.le_of_ble_eq_true rfl), (Nat.le_of_ble_eq_true rfl)⟩) rfl hK hcx hP hD hS hA 0 rfl rfl rfl (Nat.le_of_ble_eq_true rfl) dX6_rollBack_2 ⟨(Nat.le_of_ble_eq_true rfl), (Nat.le_of_ble_eq_true rfl)⟩ rfl (fun n2 ce q9 H locs hP hS hce hcv hcl => ?_) (fun c2 H locs hP hS => ?_)
  · replace h := az_neg n2 h
    have hP : va_P g.1 az_cl (az_w6 g ax an au (va_up (va_up (va_up V 5 (V 5)) 9 (V 9)) 15 (V 15)) (az_cV g au T ++ az_cH g ax aw S hs)) _ := hP
    have hD : va_D A (az_w6 g ax an au (va_up (va_up (va_up V 5 (V 5)) 9 (V 9)) 15 (V 15)) (az_cV g au T ++ az_cH g ax aw S hs)) := hD
    rw [← Option.some.inj h]
    exact az_outT n2 hex hlocks hce hcv hcl hK hP hD hS (Nat.le_of_ble_eq_true rfl) (Nat.le_of_ble_eq_true rfl)
  replace h := az_pos c2 h
  refine lv_aload_n hx hb dX6_rollBack_5 rfl (lv_at hl 0 rfl) ?_
  refine va_get (D := g.1) (ci := 6) (v := .ref (ax 1)) (C := RX6) (T := TX6) (N := 3) hx hb hts inX6_rollBack_RX6 hown hK hP 0 rfl rfl 2 (Nat.le_of_ble_eq_true rfl) (hts _ (List.mem_of_getElem? (i := 1) rfl)) (fun _ h9 => h9) rfl dX6_rollBack_6 ?_
  refine lv_aload_n hx hb dX6_rollBack_9 rfl (lv_at hl 0 rfl) ?_
  refine va_get (D := g.1) (ci := 6) (v := .ref (an 0)) (C := RX6) (T := TX6) (N := 3) hx hb hts inX6_rollBack_RX6 hown hK hP 0 rfl rfl 0 (Nat.le_of_ble_eq_true rfl) (hts _ (List.mem_of_getElem? (i := 2) rfl)) (fun _ h9 => h9) rfl dX6_rollBack_10 ?_
  obtain ⟨o13, hc13, h⟩ := az_bnd h
  refine az_callPv (w2 := az_w6 g ax an au V (az_cV g au T ++ az_cH g ax aw o13.1 o13.2)) (As := [.ref (an 0)]) (rest := []) ⟨hx, hb, hml, hown, hts⟩ hl.1 (kX1_save l g ax an aw S hs V o13 hc13) (cwV 1 hts gX6_rollBack_X1_save rfl rfl rfl (by decide +kernel) ⟨(Nat.le_of_ble_eq_true rfl), (Nat.le_of_ble_eq_true rfl)⟩) rfl hK hP hD hS hA (az_pH (az_x ax an au) (az_cV g an V) (az_cV g au T) (az_cH g ax aw S hs)) (az_pH (az_x ax an au) (az_cV g an V) (az_cV g au T) (az_cH g ax aw o13.1 o13.2)).symm 0 rfl rfl rfl (Nat.le_of_ble_eq_true rfl) dX6_rollBack_13 ⟨(Nat.le_of_ble_eq_true rfl), (Nat.le_of_ble_eq_true rfl)⟩ rfl (fun H locs hP hD hS => ?_)
  have hP : va_P g.1 az_cl (az_w6 g ax an au V (az_cV g au T ++ az_cH g ax aw o13.1 o13.2)) _ := hP
  have hD : va_D A (az_w6 g ax an au V (az_cV g au T ++ az_cH g ax aw o13.1 o13.2)) := hD
  refine lv_aload_n hx hb dX6_rollBack_16 rfl (lv_at hl 0 rfl) ?_
  refine va_get (D := g.1) (ci := 6) (v := .ref (an 0)) (C := RX6) (T := TX6) (N := 3) hx hb hts inX6_rollBack_RX6 hown hK hP 0 rfl rfl 0 (Nat.le_of_ble_eq_true rfl) (hts _ (List.mem_of_getElem? (i := 2) rfl)) (fun _ h9 => h9) rfl dX6_rollBack_17 ?_
  refine lv_iload_n hx hb dX6_rollBack_20 rfl (lv_at hl 1 rfl) ?_
  obtain ⟨o21, hc21, h⟩ := az_bnd h
  refine az_callPi (w2 := az_w6 g ax an au (va_up (va_up (va_up V 5 o21.2.1) 9 o21.2.2.1) 15 o21.2.2.2) (az_cV g au T ++ az_cH g ax aw o13.1 o13.2)) (As := [.int x1]) (rest := []) ⟨hx, hb, hml, hown, hts⟩ hl.1 (kX5_returnTo l g an V x1 o21 hc21) (cwV 1 hts gX6_rollBack_X5_returnTo rfl rfl rfl (by decide +kernel) ⟨(Nat.le_of_ble_eq_true rfl), (Nat.le_of_ble_eq_true rfl)⟩) rfl hK hP hD hS hA (az_pm (az_x ax an au :: (az_cV g an V).take 0) (az_cV g an V) ((az_cV g an V).drop 20 ++ (az_cV g au T ++ az_cH g ax aw o13.1 o13.2))) (az_pm (az_x ax an au :: (az_cV g an V).take 0) (az_cV g an (va_up (va_up (va_up V 5 o21.2.1) 9 o21.2.2.1) 15 o21.2.2.2)) ((az_cV g an V).drop 20 ++ (az_cV g au T ++ az_cH g ax aw o13.1 o13.2))).symm 0 rfl rfl rfl (Nat.le_of_ble_eq_true rfl) dX6_rollBack_21 ⟨(Nat.le_of_ble_eq_true rfl), (Nat.le_of_ble_eq_true rfl)⟩ rfl (fun H locs hP hD hS => ?_)
  have hP : va_P g.1 az_cl (az_w6 g ax an au (va_up (va_up (va_up V 5 o21.2.1) 9 o21.2.2.1) 15 o21.2.2.2) (az_cV g au T ++ az_cH g ax aw o13.1 o13.2)) _ := hP
  have hD : va_D A (az_w6 g ax an au (va_up (va_up (va_up V 5 o21.2.1) 9 o21.2.2.1) 15 o21.2.2.2) (az_cV g au T ++ az_cH g ax aw o13.1 o13.2)) := hD
  have hP : va_P g.1 az_cl (az_w6 g ax an au (va_up (va_up (va_up V 5 o21.2.1) 9 o21.2.2.1) 15 o21.2.2.2) (az_cV g au T ++ az_cH g ax aw o13.1 o13.2)) _ := hP
  have hD : va_D A (az_w6 g ax an au (va_up (va_up (va_up V 5 o21.2.1) 9 o21.2.2.1) 15 o21.2.2.2) (az_cV g au T ++ az_cH g ax aw o13.1 o13.2)) := hD
  rw [← Option.some.inj h]
  exact az_iretT hx hb hr hlocks hK hP hD hS dX6_rollBack_24 (Nat.le_of_ble_eq_true rfl) (Nat.le_of_ble_eq_true rfl)

def FX6_getFrom (V : az_St) (x1 : Int32) (x2 : Int32) : Option (Nat × Int32) := (FX6_checkKey x2).bind (fun o1 => if o1 = 0 then ((FX6_checkTaken V x1).bind (fun o6 => if o6 = 0 then ((FX4_blockOf V x1 x2).bind (fun o18 => if o18 = (-1 : Int32) then ((FX6_checkElement (0 : Int32)).bind (fun o32 => if o32 = 0 then (if az_in o18 160 = true then some (0, (V 7) o18.toNatClampNeg) else none) else some (o32, (0 : Int32)))) else ((FX6_checkElement (1 : Int32)).bind (fun o32 => if o32 = 0 then (if az_in o18 160 = true then some (0, (V 7) o18.toNatClampNeg) else none) else some (o32, (0 : Int32)))))) else some (o6, (0 : Int32)))) else some (o1, (0 : Int32)))
theorem inX6_getFrom_RX0 : ∀ w ∈ wsX00, w ∈ wsX6_getFrom := az_inr [55, 56, 57, 58, 59, 60] (by decide +kernel)
theorem inX6_getFrom_RX5 : ∀ w ∈ wsX50, w ∈ wsX6_getFrom := az_inr [44, 45, 46, 47, 48, 49, 50, 51, 52, 53, 54] (by decide +kernel)
theorem inX6_getFrom_RX6 : ∀ w ∈ wsX60, w ∈ wsX6_getFrom := az_inr [41, 42, 43] (by decide +kernel)
set_option maxHeartbeats 4000000 in
set_option maxRecDepth 100000 in
theorem kX6_getFrom (l : Launch) (hst : l.stackTraces = false) (g : az_G) (sa : Nat → Nat) (ax : Nat → Nat) (an : Nat → Nat) (au : Nat → Nat) (Y : va_W) (V : az_St) (x1 : Int32) (x2 : Int32) (o : Nat × Int32) (h : FX6_getFrom V x1 x2 = some o) : az_TI l yX6_getFrom wsX6_getFrom ({ frames := 9, cells := 4, slots := 24, locals := 161 } : Room) [.ref (ax 0), .int x1, .int x2] g sa (az_w6 g ax an au V Y) o.1 o.2 (az_w6 g ax an au V Y) 4 := by
  refine az_bodyT (cc := cX6_getFrom) (maxL := 4) (ret := (some .int)) (mc := 4) (ms := 24) (Qc := fun A => az_QTI g (az_w6 g ax an au V Y) o.1 o.2 A) (XC := fun A => az_XT g (az_w6 g ax an au V Y) o.1 A) (by decide +kernel) rfl (Nat.le_of_ble_eq_true rfl) ?_
  intro p e s m args below meth c A hx hb hr hts hown hml hlocks hex hcx hA hK hP hD hS ls hl
  have hl : lv_has ls 4 [(0, .ref (ax 0)), (1, .int x1), (2, .int x2)] := hl
  unfold FX6_getFrom at h
  refine lv_iload_n hx hb dX6_getFrom_0 rfl (lv_at hl 2 rfl) ?_
  obtain ⟨o1, hc1, h⟩ := az_bnd h
  refine az_callST (As := [.int x2]) (rest := []) ⟨hx, hb, hml, hown, hts⟩ hl.1 (kX6_checkKey l hst g sa x2 o1 hc1) (va_cwS 1 hts gX6_getFrom_X6_checkKey rfl rfl rfl (by decide +kernel) ⟨(Nat.le_of_ble_eq_true rfl), (Nat.le_of_ble_eq_true rfl)⟩) rfl hK hcx hP hS hA (Nat.le_of_ble_eq_true rfl) dX6_getFrom_1 ⟨(Nat.le_of_ble_eq_true rfl), (Nat.le_of_ble_eq_true rfl)⟩ rfl (fun n1 ce q9 H locs hP hS hce hcv hcl => ?_) (fun c1 H locs hP hS => ?_)
  · replace h := az_neg n1 h
    have hP : va_P g.1 az_cl (az_w6 g ax an au V Y) _ := hP
    have hD : va_D A (az_w6 g ax an au V Y) := hD
    rw [← Option.some.inj h]
    exact az_outT n1 hex hlocks hce hcv hcl hK hP hD hS (Nat.le_of_ble_eq_true rfl) (Nat.le_of_ble_eq_true rfl)
  replace h := az_pos c1 h
  refine lv_aload_n hx hb dX6_getFrom_4 rfl (lv_at hl 0 rfl) ?_
  refine lv_iload_n hx hb dX6_getFrom_5 rfl (lv_at hl 1 rfl) ?_
  obtain ⟨o6, hc6, h⟩ := az_bnd h
  refine az_callVT (As := [.int x1]) (rest := []) ⟨hx, hb, hml, hown, hts⟩ hl.1 (kX6_checkTaken l hst g sa ax an au Y V x1 o6 hc6) (cwV 1 hts gX6_getFrom_X6_checkTaken rfl rfl rfl (by decide +kernel) ⟨(Nat.le_of_ble_eq_true rfl), (Nat.le_of_ble_eq_true rfl)⟩) rfl hK hcx hP hD hS hA 0 rfl rfl rfl (Nat.le_of_ble_eq_true rfl) dX6_getFrom_6 ⟨(Nat.le_of_ble_eq_true rfl), (Nat.le_of_ble_eq_true rfl)⟩ rfl (fun n6 ce q9 H locs hP hS hce hcv hcl => ?_) (fun c6 H locs hP hS => ?_)
  · replace h := az_neg n6 h
    have hP : va_P g.1 az_cl (az_w6 g ax an au V Y) _ := hP
    have hD : va_D A (az_w6 g ax an au V Y) := hD
    rw [← Option.some.inj h]
    exact az_outT n6 hex hlocks hce hcv hcl hK hP hD hS (Nat.le_of_ble_eq_true rfl) (Nat.le_of_ble_eq_true rfl)
  replace h := az_pos c6 h
  refine lv_aload_n hx hb dX6_getFrom_9 rfl (lv_at hl 0 rfl) ?_
  refine va_get (D := g.1) (ci := 6) (v := .ref (an 0)) (C := RX6) (T := TX6) (N := 3) hx hb hts inX6_getFrom_RX6 hown hK hP 0 rfl rfl 0 (Nat.le_of_ble_eq_true rfl) (hts _ (List.mem_of_getElem? (i := 1) rfl)) (fun _ h9 => h9) rfl dX6_getFrom_10 ?_
  refine va_get (D := g.1) (ci := 5) (v := .ref (an 16)) (C := RX5) (T := TX5) (N := 11) hx hb hts inX6_getFrom_RX5 hown hK hP 1 rfl rfl 3 (Nat.le_of_ble_eq_true rfl) (hts _ (List.mem_of_getElem? (i := 2) rfl)) (fun _ h9 => h9) rfl dX6_getFrom_13 ?_
  refine lv_iload_n hx hb dX6_getFrom_16 rfl (lv_at hl 1 rfl) ?_
  refine lv_iload_n hx hb dX6_getFrom_17 rfl (lv_at hl 2 rfl) ?_
  obtain ⟨o18, hc18, h⟩ := az_bnd h
  refine az_callPi (w2 := az_w6 g ax an au V Y) (As := [.int x1, .int x2]) (rest := []) ⟨hx, hb, hml, hown, hts⟩ hl.1 (kX4_blockOf l g an V x1 x2 o18 hc18) (cwV 2 hts gX6_getFrom_X4_blockOf rfl rfl rfl (by decide +kernel) ⟨(Nat.le_of_ble_eq_true rfl), (Nat.le_of_ble_eq_true rfl)⟩) rfl hK hP hD hS hA (az_pm (az_x ax an au :: (az_cV g an V).take 16) (az_cP g an V) ((az_cV g an V).drop 19 ++ Y)) (az_pm (az_x ax an au :: (az_cV g an V).take 16) (az_cP g an V) ((az_cV g an V).drop 19 ++ Y)).symm 0 rfl rfl rfl (Nat.le_of_ble_eq_true rfl) dX6_getFrom_18 ⟨(Nat.le_of_ble_eq_true rfl), (Nat.le_of_ble_eq_true rfl)⟩ rfl (fun H locs hP hD hS => ?_)
  have hP : va_P g.1 az_cl (az_w6 g ax an au V Y) _ := hP
  have hD : va_D A (az_w6 g ax an au V Y) := hD
  refine lv_istore_n (lv' := [(3, .int o18), (0, .ref (ax 0)), (1, .int x1), (2, .int x2)]) hx hb dX6_getFrom_21 rfl hl (by decide) rfl (fun ls hl => ?_)
  refine lv_iload_n hx hb dX6_getFrom_22 rfl (lv_at hl 0 rfl) ?_
  refine lv_iconst (v := (-1 : Int32)) hx hb dX6_getFrom_23 (by decide) ?_
  refine lv_icmp_eq (tgt := 31) hx hb dX6_getFrom_24 (by decide) (fun c24 => ?_) (fun c24 => ?_)
  · replace h := az_pos c24 h
    refine lv_iconst (v := (0 : Int32)) hx hb dX6_getFrom_31 (by decide) ?_
    obtain ⟨o32, hc32, h⟩ := az_bnd h
    refine az_callST (As := [.int (0 : Int32)]) (rest := []) ⟨hx, hb, hml, hown, hts⟩ hl.1 (kX6_checkElement l hst g sa (0 : Int32) o32 hc32) (va_cwS 1 hts gX6_getFrom_X6_checkElement rfl rfl rfl (by decide +kernel) ⟨(Nat.le_of_ble_eq_true rfl), (Nat.le_of_ble_eq_true rfl)⟩) rfl hK hcx hP hS hA (Nat.le_of_ble_eq_true rfl) dX6_getFrom_32 ⟨(Nat.le_of_ble_eq_true rfl), (Nat.le_of_ble_eq_true rfl)⟩ rfl (fun n32 ce q9 H locs hP hS hce hcv hcl => ?_) (fun c32 H locs hP hS => ?_)
    · replace h := az_neg n32 h
      have hP : va_P g.1 az_cl (az_w6 g ax an au V Y) _ := hP
      have hD : va_D A (az_w6 g ax an au V Y) := hD
      rw [← Option.some.inj h]
      exact az_outT n32 hex hlocks hce hcv hcl hK hP hD hS (Nat.le_of_ble_eq_true rfl) (Nat.le_of_ble_eq_true rfl)
    replace h := az_pos c32 h
    refine lv_aload_n hx hb dX6_getFrom_35 rfl (lv_at hl 1 rfl) ?_
    refine va_get (D := g.1) (ci := 6) (v := .ref (an 0)) (C := RX6) (T := TX6) (N := 3) hx hb hts inX6_getFrom_RX6 hown hK hP 0 rfl rfl 0 (Nat.le_of_ble_eq_true rfl) (hts _ (List.mem_of_getElem? (i := 1) rfl)) (fun _ h9 => h9) rfl dX6_getFrom_36 ?_
    refine va_get (D := g.1) (ci := 5) (v := .ref (an 6)) (C := RX5) (T := TX5) (N := 11) hx hb hts inX6_getFrom_RX5 hown hK hP 1 rfl rfl 1 (Nat.le_of_ble_eq_true rfl) (hts _ (List.mem_of_getElem? (i := 3) rfl)) (fun _ h9 => h9) rfl dX6_getFrom_39 ?_
    refine va_get (D := g.1) (ci := 0) (v := .ref (an 9)) (C := RX0) (T := TX0) (N := 6) hx hb hts inX6_getFrom_RX0 hown hK hP 7 rfl rfl 2 (Nat.le_of_ble_eq_true rfl) (hts _ (List.mem_of_getElem? (i := 4) rfl)) (fun _ h9 => h9) rfl dX6_getFrom_42 ?_
    refine lv_iload_n hx hb dX6_getFrom_45 rfl (lv_at hl 0 rfl) ?_
    obtain ⟨i46, h⟩ := az_ite h
    refine va_iald (D := g.1) (f := (V 7)) hx hb hK hP 10 0 rfl rfl (az_vin i46) dX6_getFrom_46 ?_
    have hP : va_P g.1 az_cl (az_w6 g ax an au V Y) _ := hP
    have hD : va_D A (az_w6 g ax an au V Y) := hD
    rw [← Option.some.inj h]
    exact az_iretT hx hb hr hlocks hK hP hD hS dX6_getFrom_47 (Nat.le_of_ble_eq_true rfl) (Nat.le_of_ble_eq_true rfl)
  · replace h := az_neg c24 h
    refine lv_iconst (v := (1 : Int32)) hx hb dX6_getFrom_27 (by decide) ?_
    refine lv_goto (tgt := 32) hx hb dX6_getFrom_28 (by decide) ?_
    obtain ⟨o32, hc32, h⟩ := az_bnd h
    refine az_callST (As := [.int (1 : Int32)]) (rest := []) ⟨hx, hb, hml, hown, hts⟩ hl.1 (kX6_checkElement l hst g sa (1 : Int32) o32 hc32) (va_cwS 1 hts gX6_getFrom_X6_checkElement rfl rfl rfl (by decide +kernel) ⟨(Nat.le_of_ble_eq_true rfl), (Nat.le_of_ble_eq_true rfl)⟩) rfl hK hcx hP hS hA (Nat.le_of_ble_eq_true rfl) dX6_getFrom_32 ⟨(Nat.le_of_ble_eq_true rfl), (Nat.le_of_ble_eq_true rfl)⟩ rfl (fun n32 ce q9 H locs hP hS hce hcv hcl => ?_) (fun c32 H locs hP hS => ?_)
    · replace h := az_neg n32 h
      have hP : va_P g.1 az_cl (az_w6 g ax an au V Y) _ := hP
      have hD : va_D A (az_w6 g ax an au V Y) := hD
      rw [← Option.some.inj h]
      exact az_outT n32 hex hlocks hce hcv hcl hK hP hD hS (Nat.le_of_ble_eq_true rfl) (Nat.le_of_ble_eq_true rfl)
    replace h := az_pos c32 h
    refine lv_aload_n hx hb dX6_getFrom_35 rfl (lv_at hl 1 rfl) ?_
    refine va_get (D := g.1) (ci := 6) (v := .ref (an 0)) (C := RX6) (T := TX6) (N := 3) hx hb hts inX6_getFrom_RX6 hown hK hP 0 rfl rfl 0 (Nat.le_of_ble_eq_true rfl) (hts _ (List.mem_of_getElem? (i := 1) rfl)) (fun _ h9 => h9) rfl dX6_getFrom_36 ?_
    refine va_get (D := g.1) (ci := 5) (v := .ref (an 6)) (C := RX5) (T := TX5) (N := 11) hx hb hts inX6_getFrom_RX5 hown hK hP 1 rfl rfl 1 (Nat.le_of_ble_eq_true rfl) (hts _ (List.mem_of_getElem? (i := 3) rfl)) (fun _ h9 => h9) rfl dX6_getFrom_39 ?_
    refine va_get (D := g.1) (ci := 0) (v := .ref (an 9)) (C := RX0) (T := TX0) (N := 6) hx hb hts inX6_getFrom_RX0 hown hK hP 7 rfl rfl 2 (Nat.le_of_ble_eq_true rfl) (hts _ (List.mem_of_getElem? (i := 4) rfl)) (fun _ h9 => h9) rfl dX6_getFrom_42 ?_
    refine lv_iload_n hx hb dX6_getFrom_45 rfl (lv_at hl 0 rfl) ?_
    obtain ⟨i46, h⟩ := az_ite h
    refine va_iald (D := g.1) (f := (V 7)) hx hb hK hP 10 0 rfl rfl (az_vin i46) dX6_getFrom_46 ?_
    have hP : va_P g.1 az_cl (az_w6 g ax an au V Y) _ := hP
    have hD : va_D A (az_w6 g ax an au V Y) := hD
    rw [← Option.some.inj h]
    exact az_iretT hx hb hr hlocks hK hP hD hS dX6_getFrom_47 (Nat.le_of_ble_eq_true rfl) (Nat.le_of_ble_eq_true rfl)

def FX6_changedSince_L9 : Nat → az_St → Int32 → Int32 → Int32 → Option (Nat × Int32)
  | 0, _, _, _, _ => none
  | n + 1, V, x1, y2, y3 => if (24 : Int32) ≤ y3 then (some (0, y2)) else ((FX4_blockOf V x1 y3).bind (fun o24 => if az_in y3 24 = true then if o24 = (V 15) y3.toNatClampNeg then (FX6_changedSince_L9 n V x1 y2 (y3 + (1 : Int32))) else (FX6_changedSince_L9 n V x1 (y2 + (1 : Int32)) (y3 + (1 : Int32))) else none))
theorem FX6_changedSince_L9_s (n : Nat) (V : az_St) (x1 : Int32) (y2 : Int32) (y3 : Int32) : FX6_changedSince_L9 (n + 1) V x1 y2 y3 = (if (24 : Int32) ≤ y3 then (some (0, y2)) else ((FX4_blockOf V x1 y3).bind (fun o24 => if az_in y3 24 = true then if o24 = (V 15) y3.toNatClampNeg then (FX6_changedSince_L9 n V x1 y2 (y3 + (1 : Int32))) else (FX6_changedSince_L9 n V x1 (y2 + (1 : Int32)) (y3 + (1 : Int32))) else none))) := rfl
def FX6_changedSince (V : az_St) (x1 : Int32) : Option (Nat × Int32) := (FX6_checkTaken V x1).bind (fun o2 => if o2 = 0 then (FX6_changedSince_L9 az_fuel V x1 (0 : Int32) (0 : Int32)) else some (o2, (0 : Int32)))
theorem inX6_changedSince_RX5 : ∀ w ∈ wsX50, w ∈ wsX6_changedSince := az_inr [35, 36, 37, 38, 39, 40, 41, 42, 43, 44, 45] (by decide +kernel)
theorem inX6_changedSince_RX6 : ∀ w ∈ wsX60, w ∈ wsX6_changedSince := az_inr [32, 33, 34] (by decide +kernel)
set_option maxHeartbeats 4000000 in
set_option maxRecDepth 100000 in
theorem kX6_changedSince (l : Launch) (hst : l.stackTraces = false) (g : az_G) (sa : Nat → Nat) (ax : Nat → Nat) (an : Nat → Nat) (au : Nat → Nat) (Y : va_W) (V : az_St) (x1 : Int32) (o : Nat × Int32) (h : FX6_changedSince V x1 = some o) : az_TI l yX6_changedSince wsX6_changedSince ({ frames := 9, cells := 2, slots := 12, locals := 161 } : Room) [.ref (ax 0), .int x1] g sa (az_w6 g ax an au V Y) o.1 o.2 (az_w6 g ax an au V Y) 2 := by
  refine az_bodyT (cc := cX6_changedSince) (maxL := 4) (ret := (some .int)) (mc := 2) (ms := 12) (Qc := fun A => az_QTI g (az_w6 g ax an au V Y) o.1 o.2 A) (XC := fun A => az_XT g (az_w6 g ax an au V Y) o.1 A) (by decide +kernel) rfl (Nat.le_of_ble_eq_true rfl) ?_
  intro p e s m args below meth c A hx hb hr hts hown hml hlocks hex hcx hA hK hP hD hS ls hl
  have hl : lv_has ls 4 [(0, .ref (ax 0)), (1, .int x1)] := hl
  unfold FX6_changedSince at h
  have hL9 : ∀ (n : Nat) (y2 : Int32) (y3 : Int32) (H : Heap) (locs : List Loc) (ls : Array Slot), FX6_changedSince_L9 n V x1 y2 y3 = some o → va_P g.1 az_cl (az_w6 g ax an au V Y) H → va_D A (az_w6 g ax an au V Y) → va_S A s.heap H locs → lv_has ls 4 [(0, .ref (ax 0)), (1, .int x1), (2, .int y2), (3, .int y3)] → W p l e ({ frames := 9, cells := 2, slots := 12, locals := 161 } : Room) s m args below meth c H locs 2 12 (vx_MQ below (az_QTI g (az_w6 g ax an au V Y) o.1 o.2 A) (az_XT g (az_w6 g ax an au V Y) o.1 A) args s 2 12 A) (F0 m 9 ls []) := by
    intro n
    induction n with
    | zero => intro y2 y3 H locs ls h; exact az_non h
    | succ n ih =>
      intro y2 y3 H locs ls h hP hD hS hl
      rw [FX6_changedSince_L9_s] at h
      refine lv_iload_n hx hb dX6_changedSince_9 rfl (lv_at hl 3 rfl) ?_
      refine lv_bipush (v := (24 : Int32)) hx hb dX6_changedSince_10 (by decide) ?_
      refine lv_icmp_ge (tgt := 48) hx hb dX6_changedSince_12 (by decide) (fun c12 => ?_) (fun c12 => ?_)
      · replace h := az_pos c12 h
        refine lv_iload_n hx hb dX6_changedSince_48 rfl (lv_at hl 2 rfl) ?_
        have hP : va_P g.1 az_cl (az_w6 g ax an au V Y) _ := hP
        have hD : va_D A (az_w6 g ax an au V Y) := hD
        rw [← Option.some.inj h]
        exact az_iretT hx hb hr hlocks hK hP hD hS dX6_changedSince_49 (Nat.le_of_ble_eq_true rfl) (Nat.le_of_ble_eq_true rfl)
      · replace h := az_neg c12 h
        refine lv_aload_n hx hb dX6_changedSince_15 rfl (lv_at hl 0 rfl) ?_
        refine va_get (D := g.1) (ci := 6) (v := .ref (an 0)) (C := RX6) (T := TX6) (N := 3) hx hb hts inX6_changedSince_RX6 hown hK hP 0 rfl rfl 0 (Nat.le_of_ble_eq_true rfl) (hts _ (List.mem_of_getElem? (i := 1) rfl)) (fun _ h9 => h9) rfl dX6_changedSince_16 ?_
        refine va_get (D := g.1) (ci := 5) (v := .ref (an 16)) (C := RX5) (T := TX5) (N := 11) hx hb hts inX6_changedSince_RX5 hown hK hP 1 rfl rfl 3 (Nat.le_of_ble_eq_true rfl) (hts _ (List.mem_of_getElem? (i := 2) rfl)) (fun _ h9 => h9) rfl dX6_changedSince_19 ?_
        refine lv_iload_n hx hb dX6_changedSince_22 rfl (lv_at hl 1 rfl) ?_
        refine lv_iload_n hx hb dX6_changedSince_23 rfl (lv_at hl 3 rfl) ?_
        obtain ⟨o24, hc24, h⟩ := az_bnd h
        refine az_callPi (w2 := az_w6 g ax an au V Y) (As := [.int x1, .int y3]) (rest := []) ⟨hx, hb, hml, hown, hts⟩ hl.1 (kX4_blockOf l g an V x1 y3 o24 hc24) (cwV 2 hts gX6_changedSince_X4_blockOf rfl rfl rfl (by decide +kernel) ⟨(Nat.le_of_ble_eq_true rfl), (Nat.le_of_ble_eq_true rfl)⟩) rfl hK hP hD hS hA (az_pm (az_x ax an au :: (az_cV g an V).take 16) (az_cP g an V) ((az_cV g an V).drop 19 ++ Y)) (az_pm (az_x ax an au :: (az_cV g an V).take 16) (az_cP g an V) ((az_cV g an V).drop 19 ++ Y)).symm 0 rfl rfl rfl (Nat.le_of_ble_eq_true rfl) dX6_changedSince_24 ⟨(Nat.le_of_ble_eq_true rfl), (Nat.le_of_ble_eq_true rfl)⟩ rfl (fun H locs hP hD hS => ?_)
        have hP : va_P g.1 az_cl (az_w6 g ax an au V Y) _ := hP
        have hD : va_D A (az_w6 g ax an au V Y) := hD
        refine lv_aload_n hx hb dX6_changedSince_27 rfl (lv_at hl 0 rfl) ?_
        refine va_get (D := g.1) (ci := 6) (v := .ref (an 0)) (C := RX6) (T := TX6) (N := 3) hx hb hts inX6_changedSince_RX6 hown hK hP 0 rfl rfl 0 (Nat.le_of_ble_eq_true rfl) (hts _ (List.mem_of_getElem? (i := 1) rfl)) (fun _ h9 => h9) rfl dX6_changedSince_28 ?_
        refine va_get (D := g.1) (ci := 5) (v := .ref (an 19)) (C := RX5) (T := TX5) (N := 11) hx hb hts inX6_changedSince_RX5 hown hK hP 1 rfl rfl 4 (Nat.le_of_ble_eq_true rfl) (hts _ (List.mem_of_getElem? (i := 3) rfl)) (fun _ h9 => h9) rfl dX6_changedSince_31 ?_
        refine lv_iload_n hx hb dX6_changedSince_34 rfl (lv_at hl 3 rfl) ?_
        obtain ⟨i35, h⟩ := az_ite h
        refine va_iald (D := g.1) (f := (V 15)) hx hb hK hP 20 0 rfl rfl (az_vin i35) dX6_changedSince_35 ?_
        refine lv_icmp_eq (tgt := 42) hx hb dX6_changedSince_36 (by decide) (fun c36 => ?_) (fun c36 => ?_)
        · replace h := az_pos c36 h
          refine lv_iinc (v := y3 + (1 : Int32)) (lv' := [(3, .int (y3 + (1 : Int32))), (0, .ref (ax 0)), (1, .int x1), (2, .int y2)]) hx hb dX6_changedSince_42 hl (k := 3) rfl (rfl) (by decide) rfl (fun ls hl => ?_)
          refine lv_goto (tgt := 9) hx hb dX6_changedSince_45 (by decide) ?_
          have hP : va_P g.1 az_cl (az_w6 g ax an au V Y) _ := hP
          have hD : va_D A (az_w6 g ax an au V Y) := hD
          exact ih y2 (y3 + (1 : Int32)) _ _ ls h hP hD hS (lv_sub hl [1, 2, 3, 0] rfl)
        · replace h := az_neg c36 h
          refine lv_iinc (v := y2 + (1 : Int32)) (lv' := [(2, .int (y2 + (1 : Int32))), (0, .ref (ax 0)), (1, .int x1), (3, .int y3)]) hx hb dX6_changedSince_39 hl (k := 2) rfl (rfl) (by decide) rfl (fun ls hl => ?_)
          refine lv_iinc (v := y3 + (1 : Int32)) (lv' := [(3, .int (y3 + (1 : Int32))), (2, .int (y2 + (1 : Int32))), (0, .ref (ax 0)), (1, .int x1)]) hx hb dX6_changedSince_42 hl (k := 3) rfl (rfl) (by decide) rfl (fun ls hl => ?_)
          refine lv_goto (tgt := 9) hx hb dX6_changedSince_45 (by decide) ?_
          have hP : va_P g.1 az_cl (az_w6 g ax an au V Y) _ := hP
          have hD : va_D A (az_w6 g ax an au V Y) := hD
          exact ih (y2 + (1 : Int32)) (y3 + (1 : Int32)) _ _ ls h hP hD hS (lv_sub hl [2, 3, 1, 0] rfl)
  refine lv_aload_n hx hb dX6_changedSince_0 rfl (lv_at hl 0 rfl) ?_
  refine lv_iload_n hx hb dX6_changedSince_1 rfl (lv_at hl 1 rfl) ?_
  obtain ⟨o2, hc2, h⟩ := az_bnd h
  refine az_callVT (As := [.int x1]) (rest := []) ⟨hx, hb, hml, hown, hts⟩ hl.1 (kX6_checkTaken l hst g sa ax an au Y V x1 o2 hc2) (cwV 1 hts gX6_changedSince_X6_checkTaken rfl rfl rfl (by decide +kernel) ⟨(Nat.le_of_ble_eq_true rfl), (Nat.le_of_ble_eq_true rfl)⟩) rfl hK hcx hP hD hS hA 0 rfl rfl rfl (Nat.le_of_ble_eq_true rfl) dX6_changedSince_2 ⟨(Nat.le_of_ble_eq_true rfl), (Nat.le_of_ble_eq_true rfl)⟩ rfl (fun n2 ce q9 H locs hP hS hce hcv hcl => ?_) (fun c2 H locs hP hS => ?_)
  · replace h := az_neg n2 h
    have hP : va_P g.1 az_cl (az_w6 g ax an au V Y) _ := hP
    have hD : va_D A (az_w6 g ax an au V Y) := hD
    rw [← Option.some.inj h]
    exact az_outT n2 hex hlocks hce hcv hcl hK hP hD hS (Nat.le_of_ble_eq_true rfl) (Nat.le_of_ble_eq_true rfl)
  replace h := az_pos c2 h
  refine lv_iconst (v := (0 : Int32)) hx hb dX6_changedSince_5 (by decide) ?_
  refine lv_istore_n (lv' := [(2, .int (0 : Int32)), (0, .ref (ax 0)), (1, .int x1)]) hx hb dX6_changedSince_6 rfl hl (by decide) rfl (fun ls hl => ?_)
  refine lv_iconst (v := (0 : Int32)) hx hb dX6_changedSince_7 (by decide) ?_
  refine lv_istore_n (lv' := [(3, .int (0 : Int32)), (2, .int (0 : Int32)), (0, .ref (ax 0)), (1, .int x1)]) hx hb dX6_changedSince_8 rfl hl (by decide) rfl (fun ls hl => ?_)
  have hP : va_P g.1 az_cl (az_w6 g ax an au V Y) _ := hP
  have hD : va_D A (az_w6 g ax an au V Y) := hD
  refine W.widen (k := 2) (n := 12) (Nat.le_of_ble_eq_true rfl) (Nat.le_of_ble_eq_true rfl) ?_
  exact hL9 az_fuel (0 : Int32) (0 : Int32) _ _ ls h hP hD hS (lv_sub hl [2, 3, 1, 0] rfl)

def FX6_difference_L23 : Nat → az_St → Int32 → Int32 → Int32 → Int32 → Option (Nat × Int32)
  | 0, _, _, _, _, _ => none
  | n + 1, V, x1, x2, y3, y4 => if (24 : Int32) ≤ y4 then (some (0, y3)) else ((FX4_blockOf V x1 y4).bind (fun o40 => (FX4_blockOf V x2 y4).bind (fun o53 => if o40 = o53 then (FX6_difference_L23 n V x1 x2 y3 (y4 + (1 : Int32))) else (FX6_difference_L23 n V x1 x2 (y3 + (1 : Int32)) (y4 + (1 : Int32))))))
theorem FX6_difference_L23_s (n : Nat) (V : az_St) (x1 : Int32) (x2 : Int32) (y3 : Int32) (y4 : Int32) : FX6_difference_L23 (n + 1) V x1 x2 y3 y4 = (if (24 : Int32) ≤ y4 then (some (0, y3)) else ((FX4_blockOf V x1 y4).bind (fun o40 => (FX4_blockOf V x2 y4).bind (fun o53 => if o40 = o53 then (FX6_difference_L23 n V x1 x2 y3 (y4 + (1 : Int32))) else (FX6_difference_L23 n V x1 x2 (y3 + (1 : Int32)) (y4 + (1 : Int32))))))) := rfl
def FX6_difference (V : az_St) (x1 : Int32) (x2 : Int32) : Option (Nat × Int32) := (FX6_checkSnapshot x1).bind (fun o1 => if o1 = 0 then ((FX6_checkSnapshot x2).bind (fun o5 => if o5 = 0 then ((FX6_checkTaken V x1).bind (fun o10 => if o10 = 0 then ((FX6_checkTaken V x2).bind (fun o15 => if o15 = 0 then (FX6_difference_L23 az_fuel V x1 x2 (0 : Int32) (0 : Int32)) else some (o15, (0 : Int32)))) else some (o10, (0 : Int32)))) else some (o5, (0 : Int32)))) else some (o1, (0 : Int32)))
theorem inX6_difference_RX5 : ∀ w ∈ wsX50, w ∈ wsX6_difference := az_inr [34, 35, 36, 37, 38, 39, 40, 41, 42, 43, 44] (by decide +kernel)
theorem inX6_difference_RX6 : ∀ w ∈ wsX60, w ∈ wsX6_difference := az_inr [31, 32, 33] (by decide +kernel)
set_option maxHeartbeats 4000000 in
set_option maxRecDepth 100000 in
theorem kX6_difference (l : Launch) (hst : l.stackTraces = false) (g : az_G) (sa : Nat → Nat) (ax : Nat → Nat) (an : Nat → Nat) (au : Nat → Nat) (Y : va_W) (V : az_St) (x1 : Int32) (x2 : Int32) (o : Nat × Int32) (h : FX6_difference V x1 x2 = some o) : az_TI l yX6_difference wsX6_difference ({ frames := 9, cells := 6, slots := 36, locals := 161 } : Room) [.ref (ax 0), .int x1, .int x2] g sa (az_w6 g ax an au V Y) o.1 o.2 (az_w6 g ax an au V Y) 6 := by
  refine az_bodyT (cc := cX6_difference) (maxL := 5) (ret := (some .int)) (mc := 6) (ms := 36) (Qc := fun A => az_QTI g (az_w6 g ax an au V Y) o.1 o.2 A) (XC := fun A => az_XT g (az_w6 g ax an au V Y) o.1 A) (by decide +kernel) rfl (Nat.le_of_ble_eq_true rfl) ?_
  intro p e s m args below meth c A hx hb hr hts hown hml hlocks hex hcx hA hK hP hD hS ls hl
  have hl : lv_has ls 5 [(0, .ref (ax 0)), (1, .int x1), (2, .int x2)] := hl
  unfold FX6_difference at h
  have hL23 : ∀ (n : Nat) (y3 : Int32) (y4 : Int32) (H : Heap) (locs : List Loc) (ls : Array Slot), FX6_difference_L23 n V x1 x2 y3 y4 = some o → va_P g.1 az_cl (az_w6 g ax an au V Y) H → va_D A (az_w6 g ax an au V Y) → va_S A s.heap H locs → lv_has ls 5 [(0, .ref (ax 0)), (1, .int x1), (2, .int x2), (3, .int y3), (4, .int y4)] → W p l e ({ frames := 9, cells := 6, slots := 36, locals := 161 } : Room) s m args below meth c H locs 6 36 (vx_MQ below (az_QTI g (az_w6 g ax an au V Y) o.1 o.2 A) (az_XT g (az_w6 g ax an au V Y) o.1 A) args s 6 36 A) (F0 m 23 ls []) := by
    intro n
    induction n with
    | zero => intro y3 y4 H locs ls h; exact az_non h
    | succ n ih =>
      intro y3 y4 H locs ls h hP hD hS hl
      rw [FX6_difference_L23_s] at h
      refine lv_iload hx hb dX6_difference_23 (lv_at hl 4 rfl) ?_
      refine lv_bipush (v := (24 : Int32)) hx hb dX6_difference_25 (by decide) ?_
      refine lv_icmp_ge (tgt := 68) hx hb dX6_difference_27 (by decide) (fun c27 => ?_) (fun c27 => ?_)
      · replace h := az_pos c27 h
        refine lv_iload_n hx hb dX6_difference_68 rfl (lv_at hl 3 rfl) ?_
        have hP : va_P g.1 az_cl (az_w6 g ax an au V Y) _ := hP
        have hD : va_D A (az_w6 g ax an au V Y) := hD
        rw [← Option.some.inj h]
        exact az_iretT hx hb hr hlocks hK hP hD hS dX6_difference_69 (Nat.le_of_ble_eq_true rfl) (Nat.le_of_ble_eq_true rfl)
      · replace h := az_neg c27 h
        refine lv_aload_n hx hb dX6_difference_30 rfl (lv_at hl 0 rfl) ?_
        refine va_get (D := g.1) (ci := 6) (v := .ref (an 0)) (C := RX6) (T := TX6) (N := 3) hx hb hts inX6_difference_RX6 hown hK hP 0 rfl rfl 0 (Nat.le_of_ble_eq_true rfl) (hts _ (List.mem_of_getElem? (i := 1) rfl)) (fun _ h9 => h9) rfl dX6_difference_31 ?_
        refine va_get (D := g.1) (ci := 5) (v := .ref (an 16)) (C := RX5) (T := TX5) (N := 11) hx hb hts inX6_difference_RX5 hown hK hP 1 rfl rfl 3 (Nat.le_of_ble_eq_true rfl) (hts _ (List.mem_of_getElem? (i := 2) rfl)) (fun _ h9 => h9) rfl dX6_difference_34 ?_
        refine lv_iload_n hx hb dX6_difference_37 rfl (lv_at hl 1 rfl) ?_
        refine lv_iload hx hb dX6_difference_38 (lv_at hl 4 rfl) ?_
        obtain ⟨o40, hc40, h⟩ := az_bnd h
        refine az_callPi (w2 := az_w6 g ax an au V Y) (As := [.int x1, .int y4]) (rest := []) ⟨hx, hb, hml, hown, hts⟩ hl.1 (kX4_blockOf l g an V x1 y4 o40 hc40) (cwV 2 hts gX6_difference_X4_blockOf rfl rfl rfl (by decide +kernel) ⟨(Nat.le_of_ble_eq_true rfl), (Nat.le_of_ble_eq_true rfl)⟩) rfl hK hP hD hS hA (az_pm (az_x ax an au :: (az_cV g an V).take 16) (az_cP g an V) ((az_cV g an V).drop 19 ++ Y)) (az_pm (az_x ax an au :: (az_cV g an V).take 16) (az_cP g an V) ((az_cV g an V).drop 19 ++ Y)).symm 0 rfl rfl rfl (Nat.le_of_ble_eq_true rfl) dX6_difference_40 ⟨(Nat.le_of_ble_eq_true rfl), (Nat.le_of_ble_eq_true rfl)⟩ rfl (fun H locs hP hD hS => ?_)
        have hP : va_P g.1 az_cl (az_w6 g ax an au V Y) _ := hP
        have hD : va_D A (az_w6 g ax an au V Y) := hD
        refine lv_aload_n hx hb dX6_difference_43 rfl (lv_at hl 0 rfl) ?_
        refine va_get (D := g.1) (ci := 6) (v := .ref (an 0)) (C := RX6) (T := TX6) (N := 3) hx hb hts inX6_difference_RX6 hown hK hP 0 rfl rfl 0 (Nat.le_of_ble_eq_true rfl) (hts _ (List.mem_of_getElem? (i := 1) rfl)) (fun _ h9 => h9) rfl dX6_difference_44 ?_
        refine va_get (D := g.1) (ci := 5) (v := .ref (an 16)) (C := RX5) (T := TX5) (N := 11) hx hb hts inX6_difference_RX5 hown hK hP 1 rfl rfl 3 (Nat.le_of_ble_eq_true rfl) (hts _ (List.mem_of_getElem? (i := 2) rfl)) (fun _ h9 => h9) rfl dX6_difference_47 ?_
        refine lv_iload_n hx hb dX6_difference_50 rfl (lv_at hl 2 rfl) ?_
        refine lv_iload hx hb dX6_difference_51 (lv_at hl 4 rfl) ?_
        obtain ⟨o53, hc53, h⟩ := az_bnd h
        refine az_callPi (w2 := az_w6 g ax an au V Y) (As := [.int x2, .int y4]) (rest := [.int o40]) ⟨hx, hb, hml, hown, hts⟩ hl.1 (kX4_blockOf l g an V x2 y4 o53 hc53) (cwV 2 hts gX6_difference_X4_blockOf rfl rfl rfl (by decide +kernel) ⟨(Nat.le_of_ble_eq_true rfl), (Nat.le_of_ble_eq_true rfl)⟩) rfl hK hP hD hS hA (az_pm (az_x ax an au :: (az_cV g an V).take 16) (az_cP g an V) ((az_cV g an V).drop 19 ++ Y)) (az_pm (az_x ax an au :: (az_cV g an V).take 16) (az_cP g an V) ((az_cV g an V).drop 19 ++ Y)).symm 0 rfl rfl rfl (Nat.le_of_ble_eq_true rfl) dX6_difference_53 ⟨(Nat.le_of_ble_eq_true rfl), (Nat.le_of_ble_eq_true rfl)⟩ rfl (fun H locs hP hD hS => ?_)
        have hP : va_P g.1 az_cl (az_w6 g ax an au V Y) _ := hP
        have hD : va_D A (az_w6 g ax an au V Y) := hD
        refine lv_icmp_eq (tgt := 62) hx hb dX6_difference_56 (by decide) (fun c56 => ?_) (fun c56 => ?_)
        · replace h := az_pos c56 h
          refine lv_iinc (v := y4 + (1 : Int32)) (lv' := [(4, .int (y4 + (1 : Int32))), (0, .ref (ax 0)), (1, .int x1), (2, .int x2), (3, .int y3)]) hx hb dX6_difference_62 hl (k := 4) rfl (rfl) (by decide) rfl (fun ls hl => ?_)
          refine lv_goto (tgt := 23) hx hb dX6_difference_65 (by decide) ?_
          have hP : va_P g.1 az_cl (az_w6 g ax an au V Y) _ := hP
          have hD : va_D A (az_w6 g ax an au V Y) := hD
          exact ih y3 (y4 + (1 : Int32)) _ _ ls h hP hD hS (lv_sub hl [1, 2, 3, 4, 0] rfl)
        · replace h := az_neg c56 h
          refine lv_iinc (v := y3 + (1 : Int32)) (lv' := [(3, .int (y3 + (1 : Int32))), (0, .ref (ax 0)), (1, .int x1), (2, .int x2), (4, .int y4)]) hx hb dX6_difference_59 hl (k := 3) rfl (rfl) (by decide) rfl (fun ls hl => ?_)
          refine lv_iinc (v := y4 + (1 : Int32)) (lv' := [(4, .int (y4 + (1 : Int32))), (3, .int (y3 + (1 : Int32))), (0, .ref (ax 0)), (1, .int x1), (2, .int x2)]) hx hb dX6_difference_62 hl (k := 4) rfl (rfl) (by decide) rfl (fun ls hl => ?_)
          refine lv_goto (tgt := 23) hx hb dX6_difference_65 (by decide) ?_
          have hP : va_P g.1 az_cl (az_w6 g ax an au V Y) _ := hP
          have hD : va_D A (az_w6 g ax an au V Y) := hD
          exact ih (y3 + (1 : Int32)) (y4 + (1 : Int32)) _ _ ls h hP hD hS (lv_sub hl [2, 3, 4, 1, 0] rfl)
  refine lv_iload_n hx hb dX6_difference_0 rfl (lv_at hl 1 rfl) ?_
  obtain ⟨o1, hc1, h⟩ := az_bnd h
  refine az_callST (As := [.int x1]) (rest := []) ⟨hx, hb, hml, hown, hts⟩ hl.1 (kX6_checkSnapshot l hst g sa x1 o1 hc1) (va_cwS 1 hts gX6_difference_X6_checkSnapshot rfl rfl rfl (by decide +kernel) ⟨(Nat.le_of_ble_eq_true rfl), (Nat.le_of_ble_eq_true rfl)⟩) rfl hK hcx hP hS hA (Nat.le_of_ble_eq_true rfl) dX6_difference_1 ⟨(Nat.le_of_ble_eq_true rfl), (Nat.le_of_ble_eq_true rfl)⟩ rfl (fun n1 ce q9 H locs hP hS hce hcv hcl => ?_) (fun c1 H locs hP hS => ?_)
  · replace h := az_neg n1 h
    have hP : va_P g.1 az_cl (az_w6 g ax an au V Y) _ := hP
    have hD : va_D A (az_w6 g ax an au V Y) := hD
    rw [← Option.some.inj h]
    exact az_outT n1 hex hlocks hce hcv hcl hK hP hD hS (Nat.le_of_ble_eq_true rfl) (Nat.le_of_ble_eq_true rfl)
  replace h := az_pos c1 h
  refine lv_iload_n hx hb dX6_difference_4 rfl (lv_at hl 2 rfl) ?_
  obtain ⟨o5, hc5, h⟩ := az_bnd h
  refine az_callST (As := [.int x2]) (rest := []) ⟨hx, hb, hml, hown, hts⟩ hl.1 (kX6_checkSnapshot l hst g sa x2 o5 hc5) (va_cwS 1 hts gX6_difference_X6_checkSnapshot rfl rfl rfl (by decide +kernel) ⟨(Nat.le_of_ble_eq_true rfl), (Nat.le_of_ble_eq_true rfl)⟩) rfl hK hcx hP hS hA (Nat.le_of_ble_eq_true rfl) dX6_difference_5 ⟨(Nat.le_of_ble_eq_true rfl), (Nat.le_of_ble_eq_true rfl)⟩ rfl (fun n5 ce q9 H locs hP hS hce hcv hcl => ?_) (fun c5 H locs hP hS => ?_)
  · replace h := az_neg n5 h
    have hP : va_P g.1 az_cl (az_w6 g ax an au V Y) _ := hP
    have hD : va_D A (az_w6 g ax an au V Y) := hD
    rw [← Option.some.inj h]
    exact az_outT n5 hex hlocks hce hcv hcl hK hP hD hS (Nat.le_of_ble_eq_true rfl) (Nat.le_of_ble_eq_true rfl)
  replace h := az_pos c5 h
  refine lv_aload_n hx hb dX6_difference_8 rfl (lv_at hl 0 rfl) ?_
  refine lv_iload_n hx hb dX6_difference_9 rfl (lv_at hl 1 rfl) ?_
  obtain ⟨o10, hc10, h⟩ := az_bnd h
  refine az_callVT (As := [.int x1]) (rest := []) ⟨hx, hb, hml, hown, hts⟩ hl.1 (kX6_checkTaken l hst g sa ax an au Y V x1 o10 hc10) (cwV 1 hts gX6_difference_X6_checkTaken rfl rfl rfl (by decide +kernel) ⟨(Nat.le_of_ble_eq_true rfl), (Nat.le_of_ble_eq_true rfl)⟩) rfl hK hcx hP hD hS hA 0 rfl rfl rfl (Nat.le_of_ble_eq_true rfl) dX6_difference_10 ⟨(Nat.le_of_ble_eq_true rfl), (Nat.le_of_ble_eq_true rfl)⟩ rfl (fun n10 ce q9 H locs hP hS hce hcv hcl => ?_) (fun c10 H locs hP hS => ?_)
  · replace h := az_neg n10 h
    have hP : va_P g.1 az_cl (az_w6 g ax an au V Y) _ := hP
    have hD : va_D A (az_w6 g ax an au V Y) := hD
    rw [← Option.some.inj h]
    exact az_outT n10 hex hlocks hce hcv hcl hK hP hD hS (Nat.le_of_ble_eq_true rfl) (Nat.le_of_ble_eq_true rfl)
  replace h := az_pos c10 h
  refine lv_aload_n hx hb dX6_difference_13 rfl (lv_at hl 0 rfl) ?_
  refine lv_iload_n hx hb dX6_difference_14 rfl (lv_at hl 2 rfl) ?_
  obtain ⟨o15, hc15, h⟩ := az_bnd h
  refine az_callVT (As := [.int x2]) (rest := []) ⟨hx, hb, hml, hown, hts⟩ hl.1 (kX6_checkTaken l hst g sa ax an au Y V x2 o15 hc15) (cwV 1 hts gX6_difference_X6_checkTaken rfl rfl rfl (by decide +kernel) ⟨(Nat.le_of_ble_eq_true rfl), (Nat.le_of_ble_eq_true rfl)⟩) rfl hK hcx hP hD hS hA 0 rfl rfl rfl (Nat.le_of_ble_eq_true rfl) dX6_difference_15 ⟨(Nat.le_of_ble_eq_true rfl), (Nat.le_of_ble_eq_true rfl)⟩ rfl (fun n15 ce q9 H locs hP hS hce hcv hcl => ?_) (fun c15 H locs hP hS => ?_)
  · replace h := az_neg n15 h
    have hP : va_P g.1 az_cl (az_w6 g ax an au V Y) _ := hP
    have hD : va_D A (az_w6 g ax an au V Y) := hD
    rw [← Option.some.inj h]
    exact az_outT n15 hex hlocks hce hcv hcl hK hP hD hS (Nat.le_of_ble_eq_true rfl) (Nat.le_of_ble_eq_true rfl)
  replace h := az_pos c15 h
  refine lv_iconst (v := (0 : Int32)) hx hb dX6_difference_18 (by decide) ?_
  refine lv_istore_n (lv' := [(3, .int (0 : Int32)), (0, .ref (ax 0)), (1, .int x1), (2, .int x2)]) hx hb dX6_difference_19 rfl hl (by decide) rfl (fun ls hl => ?_)
  refine lv_iconst (v := (0 : Int32)) hx hb dX6_difference_20 (by decide) ?_
  refine lv_istore (lv' := [(4, .int (0 : Int32)), (3, .int (0 : Int32)), (0, .ref (ax 0)), (1, .int x1), (2, .int x2)]) hx hb dX6_difference_21 hl (by decide) rfl (fun ls hl => ?_)
  have hP : va_P g.1 az_cl (az_w6 g ax an au V Y) _ := hP
  have hD : va_D A (az_w6 g ax an au V Y) := hD
  refine W.widen (k := 6) (n := 36) (Nat.le_of_ble_eq_true rfl) (Nat.le_of_ble_eq_true rfl) ?_
  exact hL23 az_fuel (0 : Int32) (0 : Int32) _ _ ls h hP hD hS (lv_sub hl [2, 3, 4, 1, 0] rfl)

def FX6_ownBlocks_L9 : Nat → az_St → Int32 → Int32 → Int32 → Option (Nat × Int32)
  | 0, _, _, _, _ => none
  | n + 1, V, x1, y2, y3 => if (24 : Int32) ≤ y3 then (some (0, y2)) else ((FX5_isOwn V x1 y3).bind (fun o21 => if o21 = (0 : Int32) then (FX6_ownBlocks_L9 n V x1 y2 (y3 + (1 : Int32))) else (FX6_ownBlocks_L9 n V x1 (y2 + (1 : Int32)) (y3 + (1 : Int32)))))
theorem FX6_ownBlocks_L9_s (n : Nat) (V : az_St) (x1 : Int32) (y2 : Int32) (y3 : Int32) : FX6_ownBlocks_L9 (n + 1) V x1 y2 y3 = (if (24 : Int32) ≤ y3 then (some (0, y2)) else ((FX5_isOwn V x1 y3).bind (fun o21 => if o21 = (0 : Int32) then (FX6_ownBlocks_L9 n V x1 y2 (y3 + (1 : Int32))) else (FX6_ownBlocks_L9 n V x1 (y2 + (1 : Int32)) (y3 + (1 : Int32)))))) := rfl
def FX6_ownBlocks (V : az_St) (x1 : Int32) : Option (Nat × Int32) := (FX6_checkTaken V x1).bind (fun o2 => if o2 = 0 then (FX6_ownBlocks_L9 az_fuel V x1 (0 : Int32) (0 : Int32)) else some (o2, (0 : Int32)))
theorem inX6_ownBlocks_RX6 : ∀ w ∈ wsX60, w ∈ wsX6_ownBlocks := az_inr [48, 49, 50] (by decide +kernel)
set_option maxHeartbeats 4000000 in
set_option maxRecDepth 100000 in
theorem kX6_ownBlocks (l : Launch) (hst : l.stackTraces = false) (g : az_G) (sa : Nat → Nat) (ax : Nat → Nat) (an : Nat → Nat) (au : Nat → Nat) (Y : va_W) (V : az_St) (x1 : Int32) (o : Nat × Int32) (h : FX6_ownBlocks V x1 = some o) : az_TI l yX6_ownBlocks wsX6_ownBlocks ({ frames := 9, cells := 2, slots := 12, locals := 161 } : Room) [.ref (ax 0), .int x1] g sa (az_w6 g ax an au V Y) o.1 o.2 (az_w6 g ax an au V Y) 2 := by
  refine az_bodyT (cc := cX6_ownBlocks) (maxL := 4) (ret := (some .int)) (mc := 2) (ms := 12) (Qc := fun A => az_QTI g (az_w6 g ax an au V Y) o.1 o.2 A) (XC := fun A => az_XT g (az_w6 g ax an au V Y) o.1 A) (by decide +kernel) rfl (Nat.le_of_ble_eq_true rfl) ?_
  intro p e s m args below meth c A hx hb hr hts hown hml hlocks hex hcx hA hK hP hD hS ls hl
  have hl : lv_has ls 4 [(0, .ref (ax 0)), (1, .int x1)] := hl
  unfold FX6_ownBlocks at h
  have hL9 : ∀ (n : Nat) (y2 : Int32) (y3 : Int32) (H : Heap) (locs : List Loc) (ls : Array Slot), FX6_ownBlocks_L9 n V x1 y2 y3 = some o → va_P g.1 az_cl (az_w6 g ax an au V Y) H → va_D A (az_w6 g ax an au V Y) → va_S A s.heap H locs → lv_has ls 4 [(0, .ref (ax 0)), (1, .int x1), (2, .int y2), (3, .int y3)] → W p l e ({ frames := 9, cells := 2, slots := 12, locals := 161 } : Room) s m args below meth c H locs 2 12 (vx_MQ below (az_QTI g (az_w6 g ax an au V Y) o.1 o.2 A) (az_XT g (az_w6 g ax an au V Y) o.1 A) args s 2 12 A) (F0 m 9 ls []) := by
    intro n
    induction n with
    | zero => intro y2 y3 H locs ls h; exact az_non h
    | succ n ih =>
      intro y2 y3 H locs ls h hP hD hS hl
      rw [FX6_ownBlocks_L9_s] at h
      refine lv_iload_n hx hb dX6_ownBlocks_9 rfl (lv_at hl 3 rfl) ?_
      refine lv_bipush (v := (24 : Int32)) hx hb dX6_ownBlocks_10 (by decide) ?_
      refine lv_icmp_ge (tgt := 36) hx hb dX6_ownBlocks_12 (by decide) (fun c12 => ?_) (fun c12 => ?_)
      · replace h := az_pos c12 h
        refine lv_iload_n hx hb dX6_ownBlocks_36 rfl (lv_at hl 2 rfl) ?_
        have hP : va_P g.1 az_cl (az_w6 g ax an au V Y) _ := hP
        have hD : va_D A (az_w6 g ax an au V Y) := hD
        rw [← Option.some.inj h]
        exact az_iretT hx hb hr hlocks hK hP hD hS dX6_ownBlocks_37 (Nat.le_of_ble_eq_true rfl) (Nat.le_of_ble_eq_true rfl)
      · replace h := az_neg c12 h
        refine lv_aload_n hx hb dX6_ownBlocks_15 rfl (lv_at hl 0 rfl) ?_
        refine va_get (D := g.1) (ci := 6) (v := .ref (an 0)) (C := RX6) (T := TX6) (N := 3) hx hb hts inX6_ownBlocks_RX6 hown hK hP 0 rfl rfl 0 (Nat.le_of_ble_eq_true rfl) (hts _ (List.mem_of_getElem? (i := 1) rfl)) (fun _ h9 => h9) rfl dX6_ownBlocks_16 ?_
        refine lv_iload_n hx hb dX6_ownBlocks_19 rfl (lv_at hl 1 rfl) ?_
        refine lv_iload_n hx hb dX6_ownBlocks_20 rfl (lv_at hl 3 rfl) ?_
        obtain ⟨o21, hc21, h⟩ := az_bnd h
        refine az_callPi (w2 := az_w6 g ax an au V Y) (As := [.int x1, .int y3]) (rest := []) ⟨hx, hb, hml, hown, hts⟩ hl.1 (kX5_isOwn l g an V x1 y3 o21 hc21) (cwV 2 hts gX6_ownBlocks_X5_isOwn rfl rfl rfl (by decide +kernel) ⟨(Nat.le_of_ble_eq_true rfl), (Nat.le_of_ble_eq_true rfl)⟩) rfl hK hP hD hS hA (az_pm (az_x ax an au :: (az_cV g an V).take 0) (az_cV g an V) ((az_cV g an V).drop 20 ++ Y)) (az_pm (az_x ax an au :: (az_cV g an V).take 0) (az_cV g an V) ((az_cV g an V).drop 20 ++ Y)).symm 0 rfl rfl rfl (Nat.le_of_ble_eq_true rfl) dX6_ownBlocks_21 ⟨(Nat.le_of_ble_eq_true rfl), (Nat.le_of_ble_eq_true rfl)⟩ rfl (fun H locs hP hD hS => ?_)
        have hP : va_P g.1 az_cl (az_w6 g ax an au V Y) _ := hP
        have hD : va_D A (az_w6 g ax an au V Y) := hD
        refine lv_if_eq (tgt := 30) hx hb dX6_ownBlocks_24 (by decide) (fun c24 => ?_) (fun c24 => ?_)
        · replace h := az_pos c24 h
          refine lv_iinc (v := y3 + (1 : Int32)) (lv' := [(3, .int (y3 + (1 : Int32))), (0, .ref (ax 0)), (1, .int x1), (2, .int y2)]) hx hb dX6_ownBlocks_30 hl (k := 3) rfl (rfl) (by decide) rfl (fun ls hl => ?_)
          refine lv_goto (tgt := 9) hx hb dX6_ownBlocks_33 (by decide) ?_
          have hP : va_P g.1 az_cl (az_w6 g ax an au V Y) _ := hP
          have hD : va_D A (az_w6 g ax an au V Y) := hD
          exact ih y2 (y3 + (1 : Int32)) _ _ ls h hP hD hS (lv_sub hl [1, 2, 3, 0] rfl)
        · replace h := az_neg c24 h
          refine lv_iinc (v := y2 + (1 : Int32)) (lv' := [(2, .int (y2 + (1 : Int32))), (0, .ref (ax 0)), (1, .int x1), (3, .int y3)]) hx hb dX6_ownBlocks_27 hl (k := 2) rfl (rfl) (by decide) rfl (fun ls hl => ?_)
          refine lv_iinc (v := y3 + (1 : Int32)) (lv' := [(3, .int (y3 + (1 : Int32))), (2, .int (y2 + (1 : Int32))), (0, .ref (ax 0)), (1, .int x1)]) hx hb dX6_ownBlocks_30 hl (k := 3) rfl (rfl) (by decide) rfl (fun ls hl => ?_)
          refine lv_goto (tgt := 9) hx hb dX6_ownBlocks_33 (by decide) ?_
          have hP : va_P g.1 az_cl (az_w6 g ax an au V Y) _ := hP
          have hD : va_D A (az_w6 g ax an au V Y) := hD
          exact ih (y2 + (1 : Int32)) (y3 + (1 : Int32)) _ _ ls h hP hD hS (lv_sub hl [2, 3, 1, 0] rfl)
  refine lv_aload_n hx hb dX6_ownBlocks_0 rfl (lv_at hl 0 rfl) ?_
  refine lv_iload_n hx hb dX6_ownBlocks_1 rfl (lv_at hl 1 rfl) ?_
  obtain ⟨o2, hc2, h⟩ := az_bnd h
  refine az_callVT (As := [.int x1]) (rest := []) ⟨hx, hb, hml, hown, hts⟩ hl.1 (kX6_checkTaken l hst g sa ax an au Y V x1 o2 hc2) (cwV 1 hts gX6_ownBlocks_X6_checkTaken rfl rfl rfl (by decide +kernel) ⟨(Nat.le_of_ble_eq_true rfl), (Nat.le_of_ble_eq_true rfl)⟩) rfl hK hcx hP hD hS hA 0 rfl rfl rfl (Nat.le_of_ble_eq_true rfl) dX6_ownBlocks_2 ⟨(Nat.le_of_ble_eq_true rfl), (Nat.le_of_ble_eq_true rfl)⟩ rfl (fun n2 ce q9 H locs hP hS hce hcv hcl => ?_) (fun c2 H locs hP hS => ?_)
  · replace h := az_neg n2 h
    have hP : va_P g.1 az_cl (az_w6 g ax an au V Y) _ := hP
    have hD : va_D A (az_w6 g ax an au V Y) := hD
    rw [← Option.some.inj h]
    exact az_outT n2 hex hlocks hce hcv hcl hK hP hD hS (Nat.le_of_ble_eq_true rfl) (Nat.le_of_ble_eq_true rfl)
  replace h := az_pos c2 h
  refine lv_iconst (v := (0 : Int32)) hx hb dX6_ownBlocks_5 (by decide) ?_
  refine lv_istore_n (lv' := [(2, .int (0 : Int32)), (0, .ref (ax 0)), (1, .int x1)]) hx hb dX6_ownBlocks_6 rfl hl (by decide) rfl (fun ls hl => ?_)
  refine lv_iconst (v := (0 : Int32)) hx hb dX6_ownBlocks_7 (by decide) ?_
  refine lv_istore_n (lv' := [(3, .int (0 : Int32)), (2, .int (0 : Int32)), (0, .ref (ax 0)), (1, .int x1)]) hx hb dX6_ownBlocks_8 rfl hl (by decide) rfl (fun ls hl => ?_)
  have hP : va_P g.1 az_cl (az_w6 g ax an au V Y) _ := hP
  have hD : va_D A (az_w6 g ax an au V Y) := hD
  refine W.widen (k := 2) (n := 12) (Nat.le_of_ble_eq_true rfl) (Nat.le_of_ble_eq_true rfl) ?_
  exact hL9 az_fuel (0 : Int32) (0 : Int32) _ _ ls h hP hD hS (lv_sub hl [2, 3, 1, 0] rfl)

def FX6_checkReader (x0 : Int32) : Option (Nat) := (FX6_isBetween x0 (0 : Int32) (5 : Int32)).bind (fun o3 => (FX6_checkIndex o3).bind (fun o6 => if o6 = 0 then (some (0)) else some o6))
set_option maxHeartbeats 4000000 in
set_option maxRecDepth 100000 in
theorem kX6_checkReader (l : Launch) (hst : l.stackTraces = false) (g : az_G) (sa : Nat → Nat)  (x0 : Int32) (o : Nat) (h : FX6_checkReader x0 = some o) : az_TV l yX6_checkReader wsX6_checkReader ({ frames := 7, cells := 1, slots := 6, locals := 120 } : Room) [.int x0] g sa ([]) o ([]) 1 := by
  refine az_bodyT (cc := cX6_checkReader) (maxL := 1) (ret := none) (mc := 1) (ms := 6) (Qc := fun A => az_QTV g ([]) o A) (XC := fun A => az_XT g ([]) o A) (by decide +kernel) rfl (Nat.le_of_ble_eq_true rfl) ?_
  intro p e s m args below meth c A hx hb hr hts hown hml hlocks hex hcx hA hK hP hD hS ls hl
  have hl : lv_has ls 1 [(0, .int x0)] := hl
  unfold FX6_checkReader at h
  refine lv_iload_n hx hb dX6_checkReader_0 rfl (lv_at hl 0 rfl) ?_
  refine lv_iconst (v := (0 : Int32)) hx hb dX6_checkReader_1 (by decide) ?_
  refine lv_iconst (v := (5 : Int32)) hx hb dX6_checkReader_2 (by decide) ?_
  obtain ⟨o3, hc3, h⟩ := az_bnd h
  refine az_callS0 (As := [.int x0, .int (0 : Int32), .int (5 : Int32)]) (rest := []) ⟨hx, hb, hml, hown, hts⟩ hl.1 (kX6_isBetween l g x0 (0 : Int32) (5 : Int32) o3 hc3) (va_cwS 3 hts gX6_checkReader_X6_isBetween rfl rfl rfl (by decide +kernel) ⟨(Nat.le_of_ble_eq_true rfl), (Nat.le_of_ble_eq_true rfl)⟩) rfl hK hP hS hA (Nat.le_of_ble_eq_true rfl) dX6_checkReader_3 ⟨(Nat.le_of_ble_eq_true rfl), (Nat.le_of_ble_eq_true rfl)⟩ rfl (fun H locs hP hS => ?_)
  obtain ⟨o6, hc6, h⟩ := az_bnd h
  refine az_callST (As := [.int o3]) (rest := []) ⟨hx, hb, hml, hown, hts⟩ hl.1 (kX6_checkIndex l hst g sa o3 o6 hc6) (va_cwS 1 hts gX6_checkReader_X6_checkIndex rfl rfl rfl (by decide +kernel) ⟨(Nat.le_of_ble_eq_true rfl), (Nat.le_of_ble_eq_true rfl)⟩) rfl hK hcx hP hS hA (Nat.le_of_ble_eq_true rfl) dX6_checkReader_6 ⟨(Nat.le_of_ble_eq_true rfl), (Nat.le_of_ble_eq_true rfl)⟩ rfl (fun n6 ce q9 H locs hP hS hce hcv hcl => ?_) (fun c6 H locs hP hS => ?_)
  · replace h := az_neg n6 h
    have hP : va_P g.1 az_cl ([]) _ := hP
    have hD : va_D A ([]) := hD
    rw [← Option.some.inj h]
    exact az_outT n6 hex hlocks hce hcv hcl hK hP hD hS (Nat.le_of_ble_eq_true rfl) (Nat.le_of_ble_eq_true rfl)
  replace h := az_pos c6 h
  have hP : va_P g.1 az_cl ([]) _ := hP
  have hD : va_D A ([]) := hD
  rw [← Option.some.inj h]
  exact az_vretT hx hb hr hlocks hK hP hD hS dX6_checkReader_9 (Nat.le_of_ble_eq_true rfl) (Nat.le_of_ble_eq_true rfl)

def FX6_enter (V : az_St) (T : az_St) (S : Nat → az_St) (hs : Nat → Int32) (x1 : Int32) : Option (Nat × Int32 × (Nat → az_St) × (Nat → Int32) × (Nat → Int32) × (Nat → Int32)) := (FX6_checkReader x1).bind (fun o1 => if o1 = 0 then ((FX2_isInside V x1).bind (fun o12 => if o12 = (0 : Int32) then ((FX6_checkState (1 : Int32)).bind (fun o23 => if o23 = 0 then ((FX1_save S hs V).bind (fun o34 => (FX2_letIn V x1 ((V 16) 1)).bind (fun o52 => some (0, (V 16) 1, o34.1, o52.1, o52.2, o34.2)))) else some (o23, (0 : Int32), S, (V 11), (V 12), hs))) else ((FX6_checkState (0 : Int32)).bind (fun o23 => if o23 = 0 then ((FX1_save S hs V).bind (fun o34 => (FX2_letIn V x1 ((V 16) 1)).bind (fun o52 => some (0, (V 16) 1, o34.1, o52.1, o52.2, o34.2)))) else some (o23, (0 : Int32), S, (V 11), (V 12), hs))))) else some (o1, (0 : Int32), S, (V 11), (V 12), hs))
theorem inX6_enter_RX5 : ∀ w ∈ wsX50, w ∈ wsX6_enter := az_inr [105, 106, 107, 108, 109, 110, 111, 112, 113, 114, 115] (by decide +kernel)
theorem inX6_enter_RX6 : ∀ w ∈ wsX60, w ∈ wsX6_enter := az_inr [102, 103, 104] (by decide +kernel)
set_option maxHeartbeats 4000000 in
set_option maxRecDepth 100000 in
theorem kX6_enter (l : Launch) (hst : l.stackTraces = false) (g : az_G) (sa : Nat → Nat) (ax : Nat → Nat) (an : Nat → Nat) (au : Nat → Nat) (aw : Nat → Nat → Nat) (V : az_St) (T : az_St) (S : Nat → az_St) (hs : Nat → Int32) (x1 : Int32) (o : Nat × Int32 × (Nat → az_St) × (Nat → Int32) × (Nat → Int32) × (Nat → Int32)) (h : FX6_enter V T S hs x1 = some o) : az_TI l yX6_enter wsX6_enter ({ frames := 8, cells := 2, slots := 12, locals := 164 } : Room) [.ref (ax 0), .int x1] g sa (az_w6 g ax an au V (az_cV g au T ++ az_cH g ax aw S hs)) o.1 o.2.1 (az_w6 g ax an au (va_up (va_up V 11 o.2.2.2.1) 12 o.2.2.2.2.1) (az_cV g au T ++ az_cH g ax aw o.2.2.1 o.2.2.2.2.2)) 2 := by
  refine az_bodyT (cc := cX6_enter) (maxL := 2) (ret := (some .int)) (mc := 2) (ms := 12) (Qc := fun A => az_QTI g (az_w6 g ax an au (va_up (va_up V 11 o.2.2.2.1) 12 o.2.2.2.2.1) (az_cV g au T ++ az_cH g ax aw o.2.2.1 o.2.2.2.2.2)) o.1 o.2.1 A) (XC := fun A => az_XT g (az_w6 g ax an au (va_up (va_up V 11 o.2.2.2.1) 12 o.2.2.2.2.1) (az_cV g au T ++ az_cH g ax aw o.2.2.1 o.2.2.2.2.2)) o.1 A) (by decide +kernel) rfl (Nat.le_of_ble_eq_true rfl) ?_
  intro p e s m args below meth c A hx hb hr hts hown hml hlocks hex hcx hA hK hP hD hS ls hl
  have hl : lv_has ls 2 [(0, .ref (ax 0)), (1, .int x1)] := hl
  unfold FX6_enter at h
  refine lv_iload_n hx hb dX6_enter_0 rfl (lv_at hl 1 rfl) ?_
  obtain ⟨o1, hc1, h⟩ := az_bnd h
  refine az_callST (As := [.int x1]) (rest := []) ⟨hx, hb, hml, hown, hts⟩ hl.1 (kX6_checkReader l hst g sa x1 o1 hc1) (va_cwS 1 hts gX6_enter_X6_checkReader rfl rfl rfl (by decide +kernel) ⟨(Nat.le_of_ble_eq_true rfl), (Nat.le_of_ble_eq_true rfl)⟩) rfl hK hcx hP hS hA (Nat.le_of_ble_eq_true rfl) dX6_enter_1 ⟨(Nat.le_of_ble_eq_true rfl), (Nat.le_of_ble_eq_true rfl)⟩ rfl (fun n1 ce q9 H locs hP hS hce hcv hcl => ?_) (fun c1 H locs hP hS => ?_)
  · replace h := az_neg n1 h
    have hP : va_P g.1 az_cl (az_w6 g ax an au (va_up (va_up V 11 (V 11)) 12 (V 12)) (az_cV g au T ++ az_cH g ax aw S hs)) _ := hP
    have hD : va_D A (az_w6 g ax an au (va_up (va_up V 11 (V 11)) 12 (V 12)) (az_cV g au T ++ az_cH g ax aw S hs)) := hD
    rw [← Option.some.inj h]
    exact az_outT n1 hex hlocks hce hcv hcl hK hP hD hS (Nat.le_of_ble_eq_true rfl) (Nat.le_of_ble_eq_true rfl)
  replace h := az_pos c1 h
  refine lv_aload_n hx hb dX6_enter_4 rfl (lv_at hl 0 rfl) ?_
  refine va_get (D := g.1) (ci := 6) (v := .ref (an 0)) (C := RX6) (T := TX6) (N := 3) hx hb hts inX6_enter_RX6 hown hK hP 0 rfl rfl 0 (Nat.le_of_ble_eq_true rfl) (hts _ (List.mem_of_getElem? (i := 1) rfl)) (fun _ h9 => h9) rfl dX6_enter_5 ?_
  refine va_get (D := g.1) (ci := 5) (v := .ref (an 13)) (C := RX5) (T := TX5) (N := 11) hx hb hts inX6_enter_RX5 hown hK hP 1 rfl rfl 2 (Nat.le_of_ble_eq_true rfl) (hts _ (List.mem_of_getElem? (i := 2) rfl)) (fun _ h9 => h9) rfl dX6_enter_8 ?_
  refine lv_iload_n hx hb dX6_enter_11 rfl (lv_at hl 1 rfl) ?_
  obtain ⟨o12, hc12, h⟩ := az_bnd h
  refine az_callPi (w2 := az_w6 g ax an au V (az_cV g au T ++ az_cH g ax aw S hs)) (As := [.int x1]) (rest := []) ⟨hx, hb, hml, hown, hts⟩ hl.1 (kX2_isInside l g an V x1 o12 hc12) (cwV 1 hts gX6_enter_X2_isInside rfl rfl rfl (by decide +kernel) ⟨(Nat.le_of_ble_eq_true rfl), (Nat.le_of_ble_eq_true rfl)⟩) rfl hK hP hD hS hA (az_pm (az_x ax an au :: (az_cV g an V).take 13) (az_cR g an V) ((az_cV g an V).drop 16 ++ (az_cV g au T ++ az_cH g ax aw S hs))) (az_pm (az_x ax an au :: (az_cV g an V).take 13) (az_cR g an V) ((az_cV g an V).drop 16 ++ (az_cV g au T ++ az_cH g ax aw S hs))).symm 0 rfl rfl rfl (Nat.le_of_ble_eq_true rfl) dX6_enter_12 ⟨(Nat.le_of_ble_eq_true rfl), (Nat.le_of_ble_eq_true rfl)⟩ rfl (fun H locs hP hD hS => ?_)
  have hP : va_P g.1 az_cl (az_w6 g ax an au V (az_cV g au T ++ az_cH g ax aw S hs)) _ := hP
  have hD : va_D A (az_w6 g ax an au V (az_cV g au T ++ az_cH g ax aw S hs)) := hD
  refine lv_if_ne (tgt := 22) hx hb dX6_enter_15 (by decide) (fun c15 => ?_) (fun c15 => ?_)
  · replace h := az_neg c15 h
    refine lv_iconst (v := (0 : Int32)) hx hb dX6_enter_22 (by decide) ?_
    obtain ⟨o23, hc23, h⟩ := az_bnd h
    refine az_callST (As := [.int (0 : Int32)]) (rest := []) ⟨hx, hb, hml, hown, hts⟩ hl.1 (kX6_checkState l hst g sa (0 : Int32) o23 hc23) (va_cwS 1 hts gX6_enter_X6_checkState rfl rfl rfl (by decide +kernel) ⟨(Nat.le_of_ble_eq_true rfl), (Nat.le_of_ble_eq_true rfl)⟩) rfl hK hcx hP hS hA (Nat.le_of_ble_eq_true rfl) dX6_enter_23 ⟨(Nat.le_of_ble_eq_true rfl), (Nat.le_of_ble_eq_true rfl)⟩ rfl (fun n23 ce q9 H locs hP hS hce hcv hcl => ?_) (fun c23 H locs hP hS => ?_)
    · replace h := az_neg n23 h
      have hP : va_P g.1 az_cl (az_w6 g ax an au (va_up (va_up V 11 (V 11)) 12 (V 12)) (az_cV g au T ++ az_cH g ax aw S hs)) _ := hP
      have hD : va_D A (az_w6 g ax an au (va_up (va_up V 11 (V 11)) 12 (V 12)) (az_cV g au T ++ az_cH g ax aw S hs)) := hD
      rw [← Option.some.inj h]
      exact az_outT n23 hex hlocks hce hcv hcl hK hP hD hS (Nat.le_of_ble_eq_true rfl) (Nat.le_of_ble_eq_true rfl)
    replace h := az_pos c23 h
    refine lv_aload_n hx hb dX6_enter_26 rfl (lv_at hl 0 rfl) ?_
    refine va_get (D := g.1) (ci := 6) (v := .ref (ax 1)) (C := RX6) (T := TX6) (N := 3) hx hb hts inX6_enter_RX6 hown hK hP 0 rfl rfl 2 (Nat.le_of_ble_eq_true rfl) (hts _ (List.mem_of_getElem? (i := 3) rfl)) (fun _ h9 => h9) rfl dX6_enter_27 ?_
    refine lv_aload_n hx hb dX6_enter_30 rfl (lv_at hl 0 rfl) ?_
    refine va_get (D := g.1) (ci := 6) (v := .ref (an 0)) (C := RX6) (T := TX6) (N := 3) hx hb hts inX6_enter_RX6 hown hK hP 0 rfl rfl 0 (Nat.le_of_ble_eq_true rfl) (hts _ (List.mem_of_getElem? (i := 1) rfl)) (fun _ h9 => h9) rfl dX6_enter_31 ?_
    obtain ⟨o34, hc34, h⟩ := az_bnd h
    refine az_callPv (w2 := az_w6 g ax an au V (az_cV g au T ++ az_cH g ax aw o34.1 o34.2)) (As := [.ref (an 0)]) (rest := []) ⟨hx, hb, hml, hown, hts⟩ hl.1 (kX1_save l g ax an aw S hs V o34 hc34) (cwV 1 hts gX6_enter_X1_save rfl rfl rfl (by decide +kernel) ⟨(Nat.le_of_ble_eq_true rfl), (Nat.le_of_ble_eq_true rfl)⟩) rfl hK hP hD hS hA (az_pH (az_x ax an au) (az_cV g an V) (az_cV g au T) (az_cH g ax aw S hs)) (az_pH (az_x ax an au) (az_cV g an V) (az_cV g au T) (az_cH g ax aw o34.1 o34.2)).symm 0 rfl rfl rfl (Nat.le_of_ble_eq_true rfl) dX6_enter_34 ⟨(Nat.le_of_ble_eq_true rfl), (Nat.le_of_ble_eq_true rfl)⟩ rfl (fun H locs hP hD hS => ?_)
    have hP : va_P g.1 az_cl (az_w6 g ax an au V (az_cV g au T ++ az_cH g ax aw o34.1 o34.2)) _ := hP
    have hD : va_D A (az_w6 g ax an au V (az_cV g au T ++ az_cH g ax aw o34.1 o34.2)) := hD
    refine lv_aload_n hx hb dX6_enter_37 rfl (lv_at hl 0 rfl) ?_
    refine va_get (D := g.1) (ci := 6) (v := .ref (an 0)) (C := RX6) (T := TX6) (N := 3) hx hb hts inX6_enter_RX6 hown hK hP 0 rfl rfl 0 (Nat.le_of_ble_eq_true rfl) (hts _ (List.mem_of_getElem? (i := 1) rfl)) (fun _ h9 => h9) rfl dX6_enter_38 ?_
    refine va_get (D := g.1) (ci := 5) (v := .ref (an 13)) (C := RX5) (T := TX5) (N := 11) hx hb hts inX6_enter_RX5 hown hK hP 1 rfl rfl 2 (Nat.le_of_ble_eq_true rfl) (hts _ (List.mem_of_getElem? (i := 2) rfl)) (fun _ h9 => h9) rfl dX6_enter_41 ?_
    refine lv_iload_n hx hb dX6_enter_44 rfl (lv_at hl 1 rfl) ?_
    refine lv_aload_n hx hb dX6_enter_45 rfl (lv_at hl 0 rfl) ?_
    refine va_get (D := g.1) (ci := 6) (v := .ref (an 0)) (C := RX6) (T := TX6) (N := 3) hx hb hts inX6_enter_RX6 hown hK hP 0 rfl rfl 0 (Nat.le_of_ble_eq_true rfl) (hts _ (List.mem_of_getElem? (i := 1) rfl)) (fun _ h9 => h9) rfl dX6_enter_46 ?_
    refine va_get (D := g.1) (ci := 5) (v := .int ((V 16) 1)) (C := RX5) (T := TX5) (N := 11) hx hb hts inX6_enter_RX5 hown hK hP 1 rfl rfl 6 (Nat.le_of_ble_eq_true rfl) (hts _ (List.mem_of_getElem? (i := 4) rfl)) (fun _ h9 => h9) rfl dX6_enter_49 ?_
    obtain ⟨o52, hc52, h⟩ := az_bnd h
    refine az_callPv (w2 := az_w6 g ax an au (va_up (va_up V 11 o52.1) 12 o52.2) (az_cV g au T ++ az_cH g ax aw o34.1 o34.2)) (As := [.int x1, .int ((V 16) 1)]) (rest := []) ⟨hx, hb, hml, hown, hts⟩ hl.1 (kX2_letIn l g an V x1 ((V 16) 1) o52 hc52) (cwV 2 hts gX6_enter_X2_letIn rfl rfl rfl (by decide +kernel) ⟨(Nat.le_of_ble_eq_true rfl), (Nat.le_of_ble_eq_true rfl)⟩) rfl hK hP hD hS hA (az_pm (az_x ax an au :: (az_cV g an V).take 13) (az_cR g an V) ((az_cV g an V).drop 16 ++ (az_cV g au T ++ az_cH g ax aw o34.1 o34.2))) (az_pm (az_x ax an au :: (az_cV g an V).take 13) (az_cR g an (va_up (va_up V 11 o52.1) 12 o52.2)) ((az_cV g an V).drop 16 ++ (az_cV g au T ++ az_cH g ax aw o34.1 o34.2))).symm 0 rfl rfl rfl (Nat.le_of_ble_eq_true rfl) dX6_enter_52 ⟨(Nat.le_of_ble_eq_true rfl), (Nat.le_of_ble_eq_true rfl)⟩ rfl (fun H locs hP hD hS => ?_)
    have hP : va_P g.1 az_cl (az_w6 g ax an au (va_up (va_up V 11 o52.1) 12 o52.2) (az_cV g au T ++ az_cH g ax aw o34.1 o34.2)) _ := hP
    have hD : va_D A (az_w6 g ax an au (va_up (va_up V 11 o52.1) 12 o52.2) (az_cV g au T ++ az_cH g ax aw o34.1 o34.2)) := hD
    refine lv_aload_n hx hb dX6_enter_55 rfl (lv_at hl 0 rfl) ?_
    refine va_get (D := g.1) (ci := 6) (v := .ref (an 0)) (C := RX6) (T := TX6) (N := 3) hx hb hts inX6_enter_RX6 hown hK hP 0 rfl rfl 0 (Nat.le_of_ble_eq_true rfl) (hts _ (List.mem_of_getElem? (i := 1) rfl)) (fun _ h9 => h9) rfl dX6_enter_56 ?_
    refine va_get (D := g.1) (ci := 5) (v := .int ((V 16) 1)) (C := RX5) (T := TX5) (N := 11) hx hb hts inX6_enter_RX5 hown hK hP 1 rfl rfl 6 (Nat.le_of_ble_eq_true rfl) (hts _ (List.mem_of_getElem? (i := 4) rfl)) (fun _ h9 => h9) rfl dX6_enter_59 ?_
    have hP : va_P g.1 az_cl (az_w6 g ax an au (va_up (va_up V 11 o52.1) 12 o52.2) (az_cV g au T ++ az_cH g ax aw o34.1 o34.2)) _ := hP
    have hD : va_D A (az_w6 g ax an au (va_up (va_up V 11 o52.1) 12 o52.2) (az_cV g au T ++ az_cH g ax aw o34.1 o34.2)) := hD
    rw [← Option.some.inj h]
    exact az_iretT hx hb hr hlocks hK hP hD hS dX6_enter_62 (Nat.le_of_ble_eq_true rfl) (Nat.le_of_ble_eq_true rfl)
  · replace h := az_pos c15 h
    refine lv_iconst (v := (1 : Int32)) hx hb dX6_enter_18 (by decide) ?_
    refine lv_goto (tgt := 23) hx hb dX6_enter_19 (by decide) ?_
    obtain ⟨o23, hc23, h⟩ := az_bnd h
    refine az_callST (As := [.int (1 : Int32)]) (rest := []) ⟨hx, hb, hml, hown, hts⟩ hl.1 (kX6_checkState l hst g sa (1 : Int32) o23 hc23) (va_cwS 1 hts gX6_enter_X6_checkState rfl rfl rfl (by decide +kernel) ⟨(Nat.le_of_ble_eq_true rfl), (Nat.le_of_ble_eq_true rfl)⟩) rfl hK hcx hP hS hA (Nat.le_of_ble_eq_true rfl) dX6_enter_23 ⟨(Nat.le_of_ble_eq_true rfl), (Nat.le_of_ble_eq_true rfl)⟩ rfl (fun n23 ce q9 H locs hP hS hce hcv hcl => ?_) (fun c23 H locs hP hS => ?_)
    · replace h := az_neg n23 h
      have hP : va_P g.1 az_cl (az_w6 g ax an au (va_up (va_up V 11 (V 11)) 12 (V 12)) (az_cV g au T ++ az_cH g ax aw S hs)) _ := hP
      have hD : va_D A (az_w6 g ax an au (va_up (va_up V 11 (V 11)) 12 (V 12)) (az_cV g au T ++ az_cH g ax aw S hs)) := hD
      rw [← Option.some.inj h]
      exact az_outT n23 hex hlocks hce hcv hcl hK hP hD hS (Nat.le_of_ble_eq_true rfl) (Nat.le_of_ble_eq_true rfl)
    replace h := az_pos c23 h
    refine lv_aload_n hx hb dX6_enter_26 rfl (lv_at hl 0 rfl) ?_
    refine va_get (D := g.1) (ci := 6) (v := .ref (ax 1)) (C := RX6) (T := TX6) (N := 3) hx hb hts inX6_enter_RX6 hown hK hP 0 rfl rfl 2 (Nat.le_of_ble_eq_true rfl) (hts _ (List.mem_of_getElem? (i := 3) rfl)) (fun _ h9 => h9) rfl dX6_enter_27 ?_
    refine lv_aload_n hx hb dX6_enter_30 rfl (lv_at hl 0 rfl) ?_
    refine va_get (D := g.1) (ci := 6) (v := .ref (an 0)) (C := RX6) (T := TX6) (N := 3) hx hb hts inX6_enter_RX6 hown hK hP 0 rfl rfl 0 (Nat.le_of_ble_eq_true rfl) (hts _ (List.mem_of_getElem? (i := 1) rfl)) (fun _ h9 => h9) rfl dX6_enter_31 ?_
    obtain ⟨o34, hc34, h⟩ := az_bnd h
    refine az_callPv (w2 := az_w6 g ax an au V (az_cV g au T ++ az_cH g ax aw o34.1 o34.2)) (As := [.ref (an 0)]) (rest := []) ⟨hx, hb, hml, hown, hts⟩ hl.1 (kX1_save l g ax an aw S hs V o34 hc34) (cwV 1 hts gX6_enter_X1_save rfl rfl rfl (by decide +kernel) ⟨(Nat.le_of_ble_eq_true rfl), (Nat.le_of_ble_eq_true rfl)⟩) rfl hK hP hD hS hA (az_pH (az_x ax an au) (az_cV g an V) (az_cV g au T) (az_cH g ax aw S hs)) (az_pH (az_x ax an au) (az_cV g an V) (az_cV g au T) (az_cH g ax aw o34.1 o34.2)).symm 0 rfl rfl rfl (Nat.le_of_ble_eq_true rfl) dX6_enter_34 ⟨(Nat.le_of_ble_eq_true rfl), (Nat.le_of_ble_eq_true rfl)⟩ rfl (fun H locs hP hD hS => ?_)
    have hP : va_P g.1 az_cl (az_w6 g ax an au V (az_cV g au T ++ az_cH g ax aw o34.1 o34.2)) _ := hP
    have hD : va_D A (az_w6 g ax an au V (az_cV g au T ++ az_cH g ax aw o34.1 o34.2)) := hD
    refine lv_aload_n hx hb dX6_enter_37 rfl (lv_at hl 0 rfl) ?_
    refine va_get (D := g.1) (ci := 6) (v := .ref (an 0)) (C := RX6) (T := TX6) (N := 3) hx hb hts inX6_enter_RX6 hown hK hP 0 rfl rfl 0 (Nat.le_of_ble_eq_true rfl) (hts _ (List.mem_of_getElem? (i := 1) rfl)) (fun _ h9 => h9) rfl dX6_enter_38 ?_
    refine va_get (D := g.1) (ci := 5) (v := .ref (an 13)) (C := RX5) (T := TX5) (N := 11) hx hb hts inX6_enter_RX5 hown hK hP 1 rfl rfl 2 (Nat.le_of_ble_eq_true rfl) (hts _ (List.mem_of_getElem? (i := 2) rfl)) (fun _ h9 => h9) rfl dX6_enter_41 ?_
    refine lv_iload_n hx hb dX6_enter_44 rfl (lv_at hl 1 rfl) ?_
    refine lv_aload_n hx hb dX6_enter_45 rfl (lv_at hl 0 rfl) ?_
    refine va_get (D := g.1) (ci := 6) (v := .ref (an 0)) (C := RX6) (T := TX6) (N := 3) hx hb hts inX6_enter_RX6 hown hK hP 0 rfl rfl 0 (Nat.le_of_ble_eq_true rfl) (hts _ (List.mem_of_getElem? (i := 1) rfl)) (fun _ h9 => h9) rfl dX6_enter_46 ?_
    refine va_get (D := g.1) (ci := 5) (v := .int ((V 16) 1)) (C := RX5) (T := TX5) (N := 11) hx hb hts inX6_enter_RX5 hown hK hP 1 rfl rfl 6 (Nat.le_of_ble_eq_true rfl) (hts _ (List.mem_of_getElem? (i := 4) rfl)) (fun _ h9 => h9) rfl dX6_enter_49 ?_
    obtain ⟨o52, hc52, h⟩ := az_bnd h
    refine az_callPv (w2 := az_w6 g ax an au (va_up (va_up V 11 o52.1) 12 o52.2) (az_cV g au T ++ az_cH g ax aw o34.1 o34.2)) (As := [.int x1, .int ((V 16) 1)]) (rest := []) ⟨hx, hb, hml, hown, hts⟩ hl.1 (kX2_letIn l g an V x1 ((V 16) 1) o52 hc52) (cwV 2 hts gX6_enter_X2_letIn rfl rfl rfl (by decide +kernel) ⟨(Nat.le_of_ble_eq_true rfl), (Nat.le_of_ble_eq_true rfl)⟩) rfl hK hP hD hS hA (az_pm (az_x ax an au :: (az_cV g an V).take 13) (az_cR g an V) ((az_cV g an V).drop 16 ++ (az_cV g au T ++ az_cH g ax aw o34.1 o34.2))) (az_pm (az_x ax an au :: (az_cV g an V).take 13) (az_cR g an (va_up (va_up V 11 o52.1) 12 o52.2)) ((az_cV g an V).drop 16 ++ (az_cV g au T ++ az_cH g ax aw o34.1 o34.2))).symm 0 rfl rfl rfl (Nat.le_of_ble_eq_true rfl) dX6_enter_52 ⟨(Nat.le_of_ble_eq_true rfl), (Nat.le_of_ble_eq_true rfl)⟩ rfl (fun H locs hP hD hS => ?_)
    have hP : va_P g.1 az_cl (az_w6 g ax an au (va_up (va_up V 11 o52.1) 12 o52.2) (az_cV g au T ++ az_cH g ax aw o34.1 o34.2)) _ := hP
    have hD : va_D A (az_w6 g ax an au (va_up (va_up V 11 o52.1) 12 o52.2) (az_cV g au T ++ az_cH g ax aw o34.1 o34.2)) := hD
    refine lv_aload_n hx hb dX6_enter_55 rfl (lv_at hl 0 rfl) ?_
    refine va_get (D := g.1) (ci := 6) (v := .ref (an 0)) (C := RX6) (T := TX6) (N := 3) hx hb hts inX6_enter_RX6 hown hK hP 0 rfl rfl 0 (Nat.le_of_ble_eq_true rfl) (hts _ (List.mem_of_getElem? (i := 1) rfl)) (fun _ h9 => h9) rfl dX6_enter_56 ?_
    refine va_get (D := g.1) (ci := 5) (v := .int ((V 16) 1)) (C := RX5) (T := TX5) (N := 11) hx hb hts inX6_enter_RX5 hown hK hP 1 rfl rfl 6 (Nat.le_of_ble_eq_true rfl) (hts _ (List.mem_of_getElem? (i := 4) rfl)) (fun _ h9 => h9) rfl dX6_enter_59 ?_
    have hP : va_P g.1 az_cl (az_w6 g ax an au (va_up (va_up V 11 o52.1) 12 o52.2) (az_cV g au T ++ az_cH g ax aw o34.1 o34.2)) _ := hP
    have hD : va_D A (az_w6 g ax an au (va_up (va_up V 11 o52.1) 12 o52.2) (az_cV g au T ++ az_cH g ax aw o34.1 o34.2)) := hD
    rw [← Option.some.inj h]
    exact az_iretT hx hb hr hlocks hK hP hD hS dX6_enter_62 (Nat.le_of_ble_eq_true rfl) (Nat.le_of_ble_eq_true rfl)

def FX6_leave (V : az_St) (T : az_St) (S : Nat → az_St) (hs : Nat → Int32) (x1 : Int32) : Option (Nat × Int32 × (Nat → az_St) × (Nat → Int32) × (Nat → Int32) × (Nat → Int32) × (Nat → Int32)) := (FX6_checkReader x1).bind (fun o1 => if o1 = 0 then (if az_in x1 6 = true then if (V 11) x1.toNatClampNeg = (0 : Int32) then ((FX6_checkState (0 : Int32)).bind (fun o24 => if o24 = 0 then ((FX1_save S hs V).bind (fun o35 => (FX2_sendOut V x1 (0 : Int32)).bind (fun o47 => (FX0_releaseAll (va_up (va_up V 11 o47.1) 12 o47.2) x1).bind (fun o58 => some (0, o58.1, o35.1, o58.2, o47.1, o47.2, o35.2))))) else some (o24, (0 : Int32), S, (V 10), (V 11), (V 12), hs))) else ((FX6_checkState (1 : Int32)).bind (fun o24 => if o24 = 0 then ((FX1_save S hs V).bind (fun o35 => (FX2_sendOut V x1 (0 : Int32)).bind (fun o47 => (FX0_releaseAll (va_up (va_up V 11 o47.1) 12 o47.2) x1).bind (fun o58 => some (0, o58.1, o35.1, o58.2, o47.1, o47.2, o35.2))))) else some (o24, (0 : Int32), S, (V 10), (V 11), (V 12), hs))) else none) else some (o1, (0 : Int32), S, (V 10), (V 11), (V 12), hs))
theorem inX6_leave_RX2 : ∀ w ∈ wsX20, w ∈ wsX6_leave := az_inr [129, 130] (by decide +kernel)
theorem inX6_leave_RX5 : ∀ w ∈ wsX50, w ∈ wsX6_leave := az_inr [118, 119, 120, 121, 122, 123, 124, 125, 126, 127, 128] (by decide +kernel)
theorem inX6_leave_RX6 : ∀ w ∈ wsX60, w ∈ wsX6_leave := az_inr [115, 116, 117] (by decide +kernel)
set_option maxHeartbeats 4000000 in
set_option maxRecDepth 100000 in
theorem kX6_leave (l : Launch) (hst : l.stackTraces = false) (g : az_G) (sa : Nat → Nat) (ax : Nat → Nat) (an : Nat → Nat) (au : Nat → Nat) (aw : Nat → Nat → Nat) (V : az_St) (T : az_St) (S : Nat → az_St) (hs : Nat → Int32) (x1 : Int32) (o : Nat × Int32 × (Nat → az_St) × (Nat → Int32) × (Nat → Int32) × (Nat → Int32) × (Nat → Int32)) (h : FX6_leave V T S hs x1 = some o) : az_TI l yX6_leave wsX6_leave ({ frames := 8, cells := 2, slots := 12, locals := 164 } : Room) [.ref (ax 0), .int x1] g sa (az_w6 g ax an au V (az_cV g au T ++ az_cH g ax aw S hs)) o.1 o.2.1 (az_w6 g ax an au (va_up (va_up (va_up V 10 o.2.2.2.1) 11 o.2.2.2.2.1) 12 o.2.2.2.2.2.1) (az_cV g au T ++ az_cH g ax aw o.2.2.1 o.2.2.2.2.2.2)) 2 := by
  refine az_bodyT (cc := cX6_leave) (maxL := 2) (ret := (some .int)) (mc := 2) (ms := 12) (Qc := fun A => az_QTI g (az_w6 g ax an au (va_up (va_up (va_up V 10 o.2.2.2.1) 11 o.2.2.2.2.1) 12 o.2.2.2.2.2.1) (az_cV g au T ++ az_cH g ax aw o.2.2.1 o.2.2.2.2.2.2)) o.1 o.2.1 A) (XC := fun A => az_XT g (az_w6 g ax an au (va_up (va_up (va_up V 10 o.2.2.2.1) 11 o.2.2.2.2.1) 12 o.2.2.2.2.2.1) (az_cV g au T ++ az_cH g ax aw o.2.2.1 o.2.2.2.2.2.2)) o.1 A) (by decide +kernel) rfl (Nat.le_of_ble_eq_true rfl) ?_
  intro p e s m args below meth c A hx hb hr hts hown hml hlocks hex hcx hA hK hP hD hS ls hl
  have hl : lv_has ls 2 [(0, .ref (ax 0)), (1, .int x1)] := hl
  unfold FX6_leave at h
  refine lv_iload_n hx hb dX6_leave_0 rfl (lv_at hl 1 rfl) ?_
  obtain ⟨o1, hc1, h⟩ := az_bnd h
  refine az_callST (As := [.int x1]) (rest := []) ⟨hx, hb, hml, hown, hts⟩ hl.1 (kX6_checkReader l hst g sa x1 o1 hc1) (va_cwS 1 hts gX6_leave_X6_checkReader rfl rfl rfl (by decide +kernel) ⟨(Nat.le_of_ble_eq_true rfl), (Nat.le_of_ble_eq_true rfl)⟩) rfl hK hcx hP hS hA (Nat.le_of_ble_eq_true rfl) dX6_leave_1 ⟨(Nat.le_of_ble_eq_true rfl), (Nat.le_of_ble_eq_true rfl)⟩ rfl (fun n1 ce q9 H locs hP hS hce hcv hcl => ?_) (fun c1 H locs hP hS => ?_)
  · replace h := az_neg n1 h
    have hP : va_P g.1 az_cl (az_w6 g ax an au (va_up (va_up (va_up V 10 (V 10)) 11 (V 11)) 12 (V 12)) (az_cV g au T ++ az_cH g ax aw S hs)) _ := hP
    have hD : va_D A (az_w6 g ax an au (va_up (va_up (va_up V 10 (V 10)) 11 (V 11)) 12 (V 12)) (az_cV g au T ++ az_cH g ax aw S hs)) := hD
    rw [← Option.some.inj h]
    exact az_outT n1 hex hlocks hce hcv hcl hK hP hD hS (Nat.le_of_ble_eq_true rfl) (Nat.le_of_ble_eq_true rfl)
  replace h := az_pos c1 h
  refine lv_aload_n hx hb dX6_leave_4 rfl (lv_at hl 0 rfl) ?_
  refine va_get (D := g.1) (ci := 6) (v := .ref (an 0)) (C := RX6) (T := TX6) (N := 3) hx hb hts inX6_leave_RX6 hown hK hP 0 rfl rfl 0 (Nat.le_of_ble_eq_true rfl) (hts _ (List.mem_of_getElem? (i := 1) rfl)) (fun _ h9 => h9) rfl dX6_leave_5 ?_
  refine va_get (D := g.1) (ci := 5) (v := .ref (an 13)) (C := RX5) (T := TX5) (N := 11) hx hb hts inX6_leave_RX5 hown hK hP 1 rfl rfl 2 (Nat.le_of_ble_eq_true rfl) (hts _ (List.mem_of_getElem? (i := 2) rfl)) (fun _ h9 => h9) rfl dX6_leave_8 ?_
  refine va_get (D := g.1) (ci := 2) (v := .ref (an 14)) (C := RX2) (T := TX2) (N := 2) hx hb hts inX6_leave_RX2 hown hK hP 14 rfl rfl 0 (Nat.le_of_ble_eq_true rfl) (hts _ (List.mem_of_getElem? (i := 3) rfl)) (fun _ h9 => h9) rfl dX6_leave_11 ?_
  refine lv_iload_n hx hb dX6_leave_14 rfl (lv_at hl 1 rfl) ?_
  obtain ⟨i15, h⟩ := az_ite h
  refine va_iald (D := g.1) (f := (V 11)) hx hb hK hP 15 0 rfl rfl (az_vin i15) dX6_leave_15 ?_
  refine lv_if_eq (tgt := 23) hx hb dX6_leave_16 (by decide) (fun c16 => ?_) (fun c16 => ?_)
  · replace h := az_pos c16 h
    refine lv_iconst (v := (0 : Int32)) hx hb dX6_leave_23 (by decide) ?_
    obtain ⟨o24, hc24, h⟩ := az_bnd h
    refine az_callST (As := [.int (0 : Int32)]) (rest := []) ⟨hx, hb, hml, hown, hts⟩ hl.1 (kX6_checkState l hst g sa (0 : Int32) o24 hc24) (va_cwS 1 hts gX6_leave_X6_checkState rfl rfl rfl (by decide +kernel) ⟨(Nat.le_of_ble_eq_true rfl), (Nat.le_of_ble_eq_true rfl)⟩) rfl hK hcx hP hS hA (Nat.le_of_ble_eq_true rfl) dX6_leave_24 ⟨(Nat.le_of_ble_eq_true rfl), (Nat.le_of_ble_eq_true rfl)⟩ rfl (fun n24 ce q9 H locs hP hS hce hcv hcl => ?_) (fun c24 H locs hP hS => ?_)
    · replace h := az_neg n24 h
      have hP : va_P g.1 az_cl (az_w6 g ax an au (va_up (va_up (va_up V 10 (V 10)) 11 (V 11)) 12 (V 12)) (az_cV g au T ++ az_cH g ax aw S hs)) _ := hP
      have hD : va_D A (az_w6 g ax an au (va_up (va_up (va_up V 10 (V 10)) 11 (V 11)) 12 (V 12)) (az_cV g au T ++ az_cH g ax aw S hs)) := hD
      rw [← Option.some.inj h]
      exact az_outT n24 hex hlocks hce hcv hcl hK hP hD hS (Nat.le_of_ble_eq_true rfl) (Nat.le_of_ble_eq_true rfl)
    replace h := az_pos c24 h
    refine lv_aload_n hx hb dX6_leave_27 rfl (lv_at hl 0 rfl) ?_
    refine va_get (D := g.1) (ci := 6) (v := .ref (ax 1)) (C := RX6) (T := TX6) (N := 3) hx hb hts inX6_leave_RX6 hown hK hP 0 rfl rfl 2 (Nat.le_of_ble_eq_true rfl) (hts _ (List.mem_of_getElem? (i := 4) rfl)) (fun _ h9 => h9) rfl dX6_leave_28 ?_
    refine lv_aload_n hx hb dX6_leave_31 rfl (lv_at hl 0 rfl) ?_
    refine va_get (D := g.1) (ci := 6) (v := .ref (an 0)) (C := RX6) (T := TX6) (N := 3) hx hb hts inX6_leave_RX6 hown hK hP 0 rfl rfl 0 (Nat.le_of_ble_eq_true rfl) (hts _ (List.mem_of_getElem? (i := 1) rfl)) (fun _ h9 => h9) rfl dX6_leave_32 ?_
    obtain ⟨o35, hc35, h⟩ := az_bnd h
    refine az_callPv (w2 := az_w6 g ax an au V (az_cV g au T ++ az_cH g ax aw o35.1 o35.2)) (As := [.ref (an 0)]) (rest := []) ⟨hx, hb, hml, hown, hts⟩ hl.1 (kX1_save l g ax an aw S hs V o35 hc35) (cwV 1 hts gX6_leave_X1_save rfl rfl rfl (by decide +kernel) ⟨(Nat.le_of_ble_eq_true rfl), (Nat.le_of_ble_eq_true rfl)⟩) rfl hK hP hD hS hA (az_pH (az_x ax an au) (az_cV g an V) (az_cV g au T) (az_cH g ax aw S hs)) (az_pH (az_x ax an au) (az_cV g an V) (az_cV g au T) (az_cH g ax aw o35.1 o35.2)).symm 0 rfl rfl rfl (Nat.le_of_ble_eq_true rfl) dX6_leave_35 ⟨(Nat.le_of_ble_eq_true rfl), (Nat.le_of_ble_eq_true rfl)⟩ rfl (fun H locs hP hD hS => ?_)
    have hP : va_P g.1 az_cl (az_w6 g ax an au V (az_cV g au T ++ az_cH g ax aw o35.1 o35.2)) _ := hP
    have hD : va_D A (az_w6 g ax an au V (az_cV g au T ++ az_cH g ax aw o35.1 o35.2)) := hD
    refine lv_aload_n hx hb dX6_leave_38 rfl (lv_at hl 0 rfl) ?_
    refine va_get (D := g.1) (ci := 6) (v := .ref (an 0)) (C := RX6) (T := TX6) (N := 3) hx hb hts inX6_leave_RX6 hown hK hP 0 rfl rfl 0 (Nat.le_of_ble_eq_true rfl) (hts _ (List.mem_of_getElem? (i := 1) rfl)) (fun _ h9 => h9) rfl dX6_leave_39 ?_
    refine va_get (D := g.1) (ci := 5) (v := .ref (an 13)) (C := RX5) (T := TX5) (N := 11) hx hb hts inX6_leave_RX5 hown hK hP 1 rfl rfl 2 (Nat.le_of_ble_eq_true rfl) (hts _ (List.mem_of_getElem? (i := 2) rfl)) (fun _ h9 => h9) rfl dX6_leave_42 ?_
    refine lv_iload_n hx hb dX6_leave_45 rfl (lv_at hl 1 rfl) ?_
    refine lv_iconst (v := (0 : Int32)) hx hb dX6_leave_46 (by decide) ?_
    obtain ⟨o47, hc47, h⟩ := az_bnd h
    refine az_callPv (w2 := az_w6 g ax an au (va_up (va_up V 11 o47.1) 12 o47.2) (az_cV g au T ++ az_cH g ax aw o35.1 o35.2)) (As := [.int x1, .int (0 : Int32)]) (rest := []) ⟨hx, hb, hml, hown, hts⟩ hl.1 (kX2_sendOut l g an V x1 (0 : Int32) o47 hc47) (cwV 2 hts gX6_leave_X2_sendOut rfl rfl rfl (by decide +kernel) ⟨(Nat.le_of_ble_eq_true rfl), (Nat.le_of_ble_eq_true rfl)⟩) rfl hK hP hD hS hA (az_pm (az_x ax an au :: (az_cV g an V).take 13) (az_cR g an V) ((az_cV g an V).drop 16 ++ (az_cV g au T ++ az_cH g ax aw o35.1 o35.2))) (az_pm (az_x ax an au :: (az_cV g an V).take 13) (az_cR g an (va_up (va_up V 11 o47.1) 12 o47.2)) ((az_cV g an V).drop 16 ++ (az_cV g au T ++ az_cH g ax aw o35.1 o35.2))).symm 0 rfl rfl rfl (Nat.le_of_ble_eq_true rfl) dX6_leave_47 ⟨(Nat.le_of_ble_eq_true rfl), (Nat.le_of_ble_eq_true rfl)⟩ rfl (fun H locs hP hD hS => ?_)
    have hP : va_P g.1 az_cl (az_w6 g ax an au (va_up (va_up V 11 o47.1) 12 o47.2) (az_cV g au T ++ az_cH g ax aw o35.1 o35.2)) _ := hP
    have hD : va_D A (az_w6 g ax an au (va_up (va_up V 11 o47.1) 12 o47.2) (az_cV g au T ++ az_cH g ax aw o35.1 o35.2)) := hD
    refine lv_aload_n hx hb dX6_leave_50 rfl (lv_at hl 0 rfl) ?_
    refine va_get (D := g.1) (ci := 6) (v := .ref (an 0)) (C := RX6) (T := TX6) (N := 3) hx hb hts inX6_leave_RX6 hown hK hP 0 rfl rfl 0 (Nat.le_of_ble_eq_true rfl) (hts _ (List.mem_of_getElem? (i := 1) rfl)) (fun _ h9 => h9) rfl dX6_leave_51 ?_
    refine va_get (D := g.1) (ci := 5) (v := .ref (an 6)) (C := RX5) (T := TX5) (N := 11) hx hb hts inX6_leave_RX5 hown hK hP 1 rfl rfl 1 (Nat.le_of_ble_eq_true rfl) (hts _ (List.mem_of_getElem? (i := 5) rfl)) (fun _ h9 => h9) rfl dX6_leave_54 ?_
    refine lv_iload_n hx hb dX6_leave_57 rfl (lv_at hl 1 rfl) ?_
    obtain ⟨o58, hc58, h⟩ := az_bnd h
    refine az_callPi (w2 := az_w6 g ax an au (va_up (va_up (va_up V 10 o58.2) 11 o47.1) 12 o47.2) (az_cV g au T ++ az_cH g ax aw o35.1 o35.2)) (As := [.int x1]) (rest := []) ⟨hx, hb, hml, hown, hts⟩ hl.1 (kX0_releaseAll l g an (va_up (va_up V 11 o47.1) 12 o47.2) x1 o58 hc58) (cwV 1 hts gX6_leave_X0_releaseAll rfl rfl rfl (by decide +kernel) ⟨(Nat.le_of_ble_eq_true rfl), (Nat.le_of_ble_eq_true rfl)⟩) rfl hK hP hD hS hA (az_pm (az_x ax an au :: (az_cV g an (va_up (va_up V 11 o47.1) 12 o47.2)).take 6) (az_cB g an (va_up (va_up V 11 o47.1) 12 o47.2)) ((az_cV g an (va_up (va_up V 11 o47.1) 12 o47.2)).drop 13 ++ (az_cV g au T ++ az_cH g ax aw o35.1 o35.2))) (az_pm (az_x ax an au :: (az_cV g an (va_up (va_up V 11 o47.1) 12 o47.2)).take 6) (az_cB g an (va_up (va_up (va_up V 10 o58.2) 11 o47.1) 12 o47.2)) ((az_cV g an (va_up (va_up V 11 o47.1) 12 o47.2)).drop 13 ++ (az_cV g au T ++ az_cH g ax aw o35.1 o35.2))).symm 0 rfl rfl rfl (Nat.le_of_ble_eq_true rfl) dX6_leave_58 ⟨(Nat.le_of_ble_eq_true rfl), (Nat.le_of_ble_eq_true rfl)⟩ rfl (fun H locs hP hD hS => ?_)
    have hP : va_P g.1 az_cl (az_w6 g ax an au (va_up (va_up (va_up V 10 o58.2) 11 o47.1) 12 o47.2) (az_cV g au T ++ az_cH g ax aw o35.1 o35.2)) _ := hP
    have hD : va_D A (az_w6 g ax an au (va_up (va_up (va_up V 10 o58.2) 11 o47.1) 12 o47.2) (az_cV g au T ++ az_cH g ax aw o35.1 o35.2)) := hD
    have hP : va_P g.1 az_cl (az_w6 g ax an au (va_up (va_up (va_up V 10 o58.2) 11 o47.1) 12 o47.2) (az_cV g au T ++ az_cH g ax aw o35.1 o35.2)) _ := hP
    have hD : va_D A (az_w6 g ax an au (va_up (va_up (va_up V 10 o58.2) 11 o47.1) 12 o47.2) (az_cV g au T ++ az_cH g ax aw o35.1 o35.2)) := hD
    rw [← Option.some.inj h]
    exact az_iretT hx hb hr hlocks hK hP hD hS dX6_leave_61 (Nat.le_of_ble_eq_true rfl) (Nat.le_of_ble_eq_true rfl)
  · replace h := az_neg c16 h
    refine lv_iconst (v := (1 : Int32)) hx hb dX6_leave_19 (by decide) ?_
    refine lv_goto (tgt := 24) hx hb dX6_leave_20 (by decide) ?_
    obtain ⟨o24, hc24, h⟩ := az_bnd h
    refine az_callST (As := [.int (1 : Int32)]) (rest := []) ⟨hx, hb, hml, hown, hts⟩ hl.1 (kX6_checkState l hst g sa (1 : Int32) o24 hc24) (va_cwS 1 hts gX6_leave_X6_checkState rfl rfl rfl (by decide +kernel) ⟨(Nat.le_of_ble_eq_true rfl), (Nat.le_of_ble_eq_true rfl)⟩) rfl hK hcx hP hS hA (Nat.le_of_ble_eq_true rfl) dX6_leave_24 ⟨(Nat.le_of_ble_eq_true rfl), (Nat.le_of_ble_eq_true rfl)⟩ rfl (fun n24 ce q9 H locs hP hS hce hcv hcl => ?_) (fun c24 H locs hP hS => ?_)
    · replace h := az_neg n24 h
      have hP : va_P g.1 az_cl (az_w6 g ax an au (va_up (va_up (va_up V 10 (V 10)) 11 (V 11)) 12 (V 12)) (az_cV g au T ++ az_cH g ax aw S hs)) _ := hP
      have hD : va_D A (az_w6 g ax an au (va_up (va_up (va_up V 10 (V 10)) 11 (V 11)) 12 (V 12)) (az_cV g au T ++ az_cH g ax aw S hs)) := hD
      rw [← Option.some.inj h]
      exact az_outT n24 hex hlocks hce hcv hcl hK hP hD hS (Nat.le_of_ble_eq_true rfl) (Nat.le_of_ble_eq_true rfl)
    replace h := az_pos c24 h
    refine lv_aload_n hx hb dX6_leave_27 rfl (lv_at hl 0 rfl) ?_
    refine va_get (D := g.1) (ci := 6) (v := .ref (ax 1)) (C := RX6) (T := TX6) (N := 3) hx hb hts inX6_leave_RX6 hown hK hP 0 rfl rfl 2 (Nat.le_of_ble_eq_true rfl) (hts _ (List.mem_of_getElem? (i := 4) rfl)) (fun _ h9 => h9) rfl dX6_leave_28 ?_
    refine lv_aload_n hx hb dX6_leave_31 rfl (lv_at hl 0 rfl) ?_
    refine va_get (D := g.1) (ci := 6) (v := .ref (an 0)) (C := RX6) (T := TX6) (N := 3) hx hb hts inX6_leave_RX6 hown hK hP 0 rfl rfl 0 (Nat.le_of_ble_eq_true rfl) (hts _ (List.mem_of_getElem? (i := 1) rfl)) (fun _ h9 => h9) rfl dX6_leave_32 ?_
    obtain ⟨o35, hc35, h⟩ := az_bnd h
    refine az_callPv (w2 := az_w6 g ax an au V (az_cV g au T ++ az_cH g ax aw o35.1 o35.2)) (As := [.ref (an 0)]) (rest := []) ⟨hx, hb, hml, hown, hts⟩ hl.1 (kX1_save l g ax an aw S hs V o35 hc35) (cwV 1 hts gX6_leave_X1_save rfl rfl rfl (by decide +kernel) ⟨(Nat.le_of_ble_eq_true rfl), (Nat.le_of_ble_eq_true rfl)⟩) rfl hK hP hD hS hA (az_pH (az_x ax an au) (az_cV g an V) (az_cV g au T) (az_cH g ax aw S hs)) (az_pH (az_x ax an au) (az_cV g an V) (az_cV g au T) (az_cH g ax aw o35.1 o35.2)).symm 0 rfl rfl rfl (Nat.le_of_ble_eq_true rfl) dX6_leave_35 ⟨(Nat.le_of_ble_eq_true rfl), (Nat.le_of_ble_eq_true rfl)⟩ rfl (fun H locs hP hD hS => ?_)
    have hP : va_P g.1 az_cl (az_w6 g ax an au V (az_cV g au T ++ az_cH g ax aw o35.1 o35.2)) _ := hP
    have hD : va_D A (az_w6 g ax an au V (az_cV g au T ++ az_cH g ax aw o35.1 o35.2)) := hD
    refine lv_aload_n hx hb dX6_leave_38 rfl (lv_at hl 0 rfl) ?_
    refine va_get (D := g.1) (ci := 6) (v := .ref (an 0)) (C := RX6) (T := TX6) (N := 3) hx hb hts inX6_leave_RX6 hown hK hP 0 rfl rfl 0 (Nat.le_of_ble_eq_true rfl) (hts _ (List.mem_of_getElem? (i := 1) rfl)) (fun _ h9 => h9) rfl dX6_leave_39 ?_
    refine va_get (D := g.1) (ci := 5) (v := .ref (an 13)) (C := RX5) (T := TX5) (N := 11) hx hb hts inX6_leave_RX5 hown hK hP 1 rfl rfl 2 (Nat.le_of_ble_eq_true rfl) (hts _ (List.mem_of_getElem? (i := 2) rfl)) (fun _ h9 => h9) rfl dX6_leave_42 ?_
    refine lv_iload_n hx hb dX6_leave_45 rfl (lv_at hl 1 rfl) ?_
    refine lv_iconst (v := (0 : Int32)) hx hb dX6_leave_46 (by decide) ?_
    obtain ⟨o47, hc47, h⟩ := az_bnd h
    refine az_callPv (w2 := az_w6 g ax an au (va_up (va_up V 11 o47.1) 12 o47.2) (az_cV g au T ++ az_cH g ax aw o35.1 o35.2)) (As := [.int x1, .int (0 : Int32)]) (rest := []) ⟨hx, hb, hml, hown, hts⟩ hl.1 (kX2_sendOut l g an V x1 (0 : Int32) o47 hc47) (cwV 2 hts gX6_leave_X2_sendOut rfl rfl rfl (by decide +kernel) ⟨(Nat.le_of_ble_eq_true rfl), (Nat.le_of_ble_eq_true rfl)⟩) rfl hK hP hD hS hA (az_pm (az_x ax an au :: (az_cV g an V).take 13) (az_cR g an V) ((az_cV g an V).drop 16 ++ (az_cV g au T ++ az_cH g ax aw o35.1 o35.2))) (az_pm (az_x ax an au :: (az_cV g an V).take 13) (az_cR g an (va_up (va_up V 11 o47.1) 12 o47.2)) ((az_cV g an V).drop 16 ++ (az_cV g au T ++ az_cH g ax aw o35.1 o35.2))).symm 0 rfl rfl rfl (Nat.le_of_ble_eq_true rfl) dX6_leave_47 ⟨(Nat.le_of_ble_eq_true rfl), (Nat.le_of_ble_eq_true rfl)⟩ rfl (fun H locs hP hD hS => ?_)
    have hP : va_P g.1 az_cl (az_w6 g ax an au (va_up (va_up V 11 o47.1) 12 o47.2) (az_cV g au T ++ az_cH g ax aw o35.1 o35.2)) _ := hP
    have hD : va_D A (az_w6 g ax an au (va_up (va_up V 11 o47.1) 12 o47.2) (az_cV g au T ++ az_cH g ax aw o35.1 o35.2)) := hD
    refine lv_aload_n hx hb dX6_leave_50 rfl (lv_at hl 0 rfl) ?_
    refine va_get (D := g.1) (ci := 6) (v := .ref (an 0)) (C := RX6) (T := TX6) (N := 3) hx hb hts inX6_leave_RX6 hown hK hP 0 rfl rfl 0 (Nat.le_of_ble_eq_true rfl) (hts _ (List.mem_of_getElem? (i := 1) rfl)) (fun _ h9 => h9) rfl dX6_leave_51 ?_
    refine va_get (D := g.1) (ci := 5) (v := .ref (an 6)) (C := RX5) (T := TX5) (N := 11) hx hb hts inX6_leave_RX5 hown hK hP 1 rfl rfl 1 (Nat.le_of_ble_eq_true rfl) (hts _ (List.mem_of_getElem? (i := 5) rfl)) (fun _ h9 => h9) rfl dX6_leave_54 ?_
    refine lv_iload_n hx hb dX6_leave_57 rfl (lv_at hl 1 rfl) ?_
    obtain ⟨o58, hc58, h⟩ := az_bnd h
    refine az_callPi (w2 := az_w6 g ax an au (va_up (va_up (va_up V 10 o58.2) 11 o47.1) 12 o47.2) (az_cV g au T ++ az_cH g ax aw o35.1 o35.2)) (As := [.int x1]) (rest := []) ⟨hx, hb, hml, hown, hts⟩ hl.1 (kX0_releaseAll l g an (va_up (va_up V 11 o47.1) 12 o47.2) x1 o58 hc58) (cwV 1 hts gX6_leave_X0_releaseAll rfl rfl rfl (by decide +kernel) ⟨(Nat.le_of_ble_eq_true rfl), (Nat.le_of_ble_eq_true rfl)⟩) rfl hK hP hD hS hA (az_pm (az_x ax an au :: (az_cV g an (va_up (va_up V 11 o47.1) 12 o47.2)).take 6) (az_cB g an (va_up (va_up V 11 o47.1) 12 o47.2)) ((az_cV g an (va_up (va_up V 11 o47.1) 12 o47.2)).drop 13 ++ (az_cV g au T ++ az_cH g ax aw o35.1 o35.2))) (az_pm (az_x ax an au :: (az_cV g an (va_up (va_up V 11 o47.1) 12 o47.2)).take 6) (az_cB g an (va_up (va_up (va_up V 10 o58.2) 11 o47.1) 12 o47.2)) ((az_cV g an (va_up (va_up V 11 o47.1) 12 o47.2)).drop 13 ++ (az_cV g au T ++ az_cH g ax aw o35.1 o35.2))).symm 0 rfl rfl rfl (Nat.le_of_ble_eq_true rfl) dX6_leave_58 ⟨(Nat.le_of_ble_eq_true rfl), (Nat.le_of_ble_eq_true rfl)⟩ rfl (fun H locs hP hD hS => ?_)
    have hP : va_P g.1 az_cl (az_w6 g ax an au (va_up (va_up (va_up V 10 o58.2) 11 o47.1) 12 o47.2) (az_cV g au T ++ az_cH g ax aw o35.1 o35.2)) _ := hP
    have hD : va_D A (az_w6 g ax an au (va_up (va_up (va_up V 10 o58.2) 11 o47.1) 12 o47.2) (az_cV g au T ++ az_cH g ax aw o35.1 o35.2)) := hD
    have hP : va_P g.1 az_cl (az_w6 g ax an au (va_up (va_up (va_up V 10 o58.2) 11 o47.1) 12 o47.2) (az_cV g au T ++ az_cH g ax aw o35.1 o35.2)) _ := hP
    have hD : va_D A (az_w6 g ax an au (va_up (va_up (va_up V 10 o58.2) 11 o47.1) 12 o47.2) (az_cV g au T ++ az_cH g ax aw o35.1 o35.2)) := hD
    rw [← Option.some.inj h]
    exact az_iretT hx hb hr hlocks hK hP hD hS dX6_leave_61 (Nat.le_of_ble_eq_true rfl) (Nat.le_of_ble_eq_true rfl)

def FX6_announce (V : az_St) (T : az_St) (S : Nat → az_St) (hs : Nat → Int32) (x1 : Int32) : Option (Nat × Int32 × (Nat → az_St) × (Nat → Int32) × (Nat → Int32) × (Nat → Int32) × (Nat → Int32)) := (FX6_checkReader x1).bind (fun o1 => if o1 = 0 then ((FX2_isInside V x1).bind (fun o12 => (FX6_checkState o12).bind (fun o15 => if o15 = 0 then ((FX1_save S hs V).bind (fun o26 => (FX2_letIn V x1 ((V 16) 1)).bind (fun o44 => (FX0_releaseAll (va_up (va_up V 11 o44.1) 12 o44.2) x1).bind (fun o55 => some (0, o55.1, o26.1, o55.2, o44.1, o44.2, o26.2))))) else some (o15, (0 : Int32), S, (V 10), (V 11), (V 12), hs)))) else some (o1, (0 : Int32), S, (V 10), (V 11), (V 12), hs))
theorem inX6_announce_RX5 : ∀ w ∈ wsX50, w ∈ wsX6_announce := az_inr [122, 123, 124, 125, 126, 127, 128, 129, 130, 131, 132] (by decide +kernel)
theorem inX6_announce_RX6 : ∀ w ∈ wsX60, w ∈ wsX6_announce := az_inr [119, 120, 121] (by decide +kernel)
set_option maxHeartbeats 4000000 in
set_option maxRecDepth 100000 in
theorem kX6_announce (l : Launch) (hst : l.stackTraces = false) (g : az_G) (sa : Nat → Nat) (ax : Nat → Nat) (an : Nat → Nat) (au : Nat → Nat) (aw : Nat → Nat → Nat) (V : az_St) (T : az_St) (S : Nat → az_St) (hs : Nat → Int32) (x1 : Int32) (o : Nat × Int32 × (Nat → az_St) × (Nat → Int32) × (Nat → Int32) × (Nat → Int32) × (Nat → Int32)) (h : FX6_announce V T S hs x1 = some o) : az_TI l yX6_announce wsX6_announce ({ frames := 8, cells := 2, slots := 12, locals := 164 } : Room) [.ref (ax 0), .int x1] g sa (az_w6 g ax an au V (az_cV g au T ++ az_cH g ax aw S hs)) o.1 o.2.1 (az_w6 g ax an au (va_up (va_up (va_up V 10 o.2.2.2.1) 11 o.2.2.2.2.1) 12 o.2.2.2.2.2.1) (az_cV g au T ++ az_cH g ax aw o.2.2.1 o.2.2.2.2.2.2)) 2 := by
  refine az_bodyT (cc := cX6_announce) (maxL := 2) (ret := (some .int)) (mc := 2) (ms := 12) (Qc := fun A => az_QTI g (az_w6 g ax an au (va_up (va_up (va_up V 10 o.2.2.2.1) 11 o.2.2.2.2.1) 12 o.2.2.2.2.2.1) (az_cV g au T ++ az_cH g ax aw o.2.2.1 o.2.2.2.2.2.2)) o.1 o.2.1 A) (XC := fun A => az_XT g (az_w6 g ax an au (va_up (va_up (va_up V 10 o.2.2.2.1) 11 o.2.2.2.2.1) 12 o.2.2.2.2.2.1) (az_cV g au T ++ az_cH g ax aw o.2.2.1 o.2.2.2.2.2.2)) o.1 A) (by decide +kernel) rfl (Nat.le_of_ble_eq_true rfl) ?_
  intro p e s m args below meth c A hx hb hr hts hown hml hlocks hex hcx hA hK hP hD hS ls hl
  have hl : lv_has ls 2 [(0, .ref (ax 0)), (1, .int x1)] := hl
  unfold FX6_announce at h
  refine lv_iload_n hx hb dX6_announce_0 rfl (lv_at hl 1 rfl) ?_
  obtain ⟨o1, hc1, h⟩ := az_bnd h
  refine az_callST (As := [.int x1]) (rest := []) ⟨hx, hb, hml, hown, hts⟩ hl.1 (kX6_checkReader l hst g sa x1 o1 hc1) (va_cwS 1 hts gX6_announce_X6_checkReader rfl rfl rfl (by decide +kernel) ⟨(Nat.le_of_ble_eq_true rfl), (Nat.le_of_ble_eq_true rfl)⟩) rfl hK hcx hP hS hA (Nat.le_of_ble_eq_true rfl) dX6_announce_1 ⟨(Nat.le_of_ble_eq_true rfl), (Nat.le_of_ble_eq_true rfl)⟩ rfl (fun n1 ce q9 H locs hP hS hce hcv hcl => ?_) (fun c1 H locs hP hS => ?_)
  · replace h := az_neg n1 h
    have hP : va_P g.1 az_cl (az_w6 g ax an au (va_up (va_up (va_up V 10 (V 10)) 11 (V 11)) 12 (V 12)) (az_cV g au T ++ az_cH g ax aw S hs)) _ := hP
    have hD : va_D A (az_w6 g ax an au (va_up (va_up (va_up V 10 (V 10)) 11 (V 11)) 12 (V 12)) (az_cV g au T ++ az_cH g ax aw S hs)) := hD
    rw [← Option.some.inj h]
    exact az_outT n1 hex hlocks hce hcv hcl hK hP hD hS (Nat.le_of_ble_eq_true rfl) (Nat.le_of_ble_eq_true rfl)
  replace h := az_pos c1 h
  refine lv_aload_n hx hb dX6_announce_4 rfl (lv_at hl 0 rfl) ?_
  refine va_get (D := g.1) (ci := 6) (v := .ref (an 0)) (C := RX6) (T := TX6) (N := 3) hx hb hts inX6_announce_RX6 hown hK hP 0 rfl rfl 0 (Nat.le_of_ble_eq_true rfl) (hts _ (List.mem_of_getElem? (i := 1) rfl)) (fun _ h9 => h9) rfl dX6_announce_5 ?_
  refine va_get (D := g.1) (ci := 5) (v := .ref (an 13)) (C := RX5) (T := TX5) (N := 11) hx hb hts inX6_announce_RX5 hown hK hP 1 rfl rfl 2 (Nat.le_of_ble_eq_true rfl) (hts _ (List.mem_of_getElem? (i := 2) rfl)) (fun _ h9 => h9) rfl dX6_announce_8 ?_
  refine lv_iload_n hx hb dX6_announce_11 rfl (lv_at hl 1 rfl) ?_
  obtain ⟨o12, hc12, h⟩ := az_bnd h
  refine az_callPi (w2 := az_w6 g ax an au V (az_cV g au T ++ az_cH g ax aw S hs)) (As := [.int x1]) (rest := []) ⟨hx, hb, hml, hown, hts⟩ hl.1 (kX2_isInside l g an V x1 o12 hc12) (cwV 1 hts gX6_announce_X2_isInside rfl rfl rfl (by decide +kernel) ⟨(Nat.le_of_ble_eq_true rfl), (Nat.le_of_ble_eq_true rfl)⟩) rfl hK hP hD hS hA (az_pm (az_x ax an au :: (az_cV g an V).take 13) (az_cR g an V) ((az_cV g an V).drop 16 ++ (az_cV g au T ++ az_cH g ax aw S hs))) (az_pm (az_x ax an au :: (az_cV g an V).take 13) (az_cR g an V) ((az_cV g an V).drop 16 ++ (az_cV g au T ++ az_cH g ax aw S hs))).symm 0 rfl rfl rfl (Nat.le_of_ble_eq_true rfl) dX6_announce_12 ⟨(Nat.le_of_ble_eq_true rfl), (Nat.le_of_ble_eq_true rfl)⟩ rfl (fun H locs hP hD hS => ?_)
  have hP : va_P g.1 az_cl (az_w6 g ax an au V (az_cV g au T ++ az_cH g ax aw S hs)) _ := hP
  have hD : va_D A (az_w6 g ax an au V (az_cV g au T ++ az_cH g ax aw S hs)) := hD
  obtain ⟨o15, hc15, h⟩ := az_bnd h
  refine az_callST (As := [.int o12]) (rest := []) ⟨hx, hb, hml, hown, hts⟩ hl.1 (kX6_checkState l hst g sa o12 o15 hc15) (va_cwS 1 hts gX6_announce_X6_checkState rfl rfl rfl (by decide +kernel) ⟨(Nat.le_of_ble_eq_true rfl), (Nat.le_of_ble_eq_true rfl)⟩) rfl hK hcx hP hS hA (Nat.le_of_ble_eq_true rfl) dX6_announce_15 ⟨(Nat.le_of_ble_eq_true rfl), (Nat.le_of_ble_eq_true rfl)⟩ rfl (fun n15 ce q9 H locs hP hS hce hcv hcl => ?_) (fun c15 H locs hP hS => ?_)
  · replace h := az_neg n15 h
    have hP : va_P g.1 az_cl (az_w6 g ax an au (va_up (va_up (va_up V 10 (V 10)) 11 (V 11)) 12 (V 12)) (az_cV g au T ++ az_cH g ax aw S hs)) _ := hP
    have hD : va_D A (az_w6 g ax an au (va_up (va_up (va_up V 10 (V 10)) 11 (V 11)) 12 (V 12)) (az_cV g au T ++ az_cH g ax aw S hs)) := hD
    rw [← Option.some.inj h]
    exact az_outT n15 hex hlocks hce hcv hcl hK hP hD hS (Nat.le_of_ble_eq_true rfl) (Nat.le_of_ble_eq_true rfl)
  replace h := az_pos c15 h
  refine lv_aload_n hx hb dX6_announce_18 rfl (lv_at hl 0 rfl) ?_
  refine va_get (D := g.1) (ci := 6) (v := .ref (ax 1)) (C := RX6) (T := TX6) (N := 3) hx hb hts inX6_announce_RX6 hown hK hP 0 rfl rfl 2 (Nat.le_of_ble_eq_true rfl) (hts _ (List.mem_of_getElem? (i := 3) rfl)) (fun _ h9 => h9) rfl dX6_announce_19 ?_
  refine lv_aload_n hx hb dX6_announce_22 rfl (lv_at hl 0 rfl) ?_
  refine va_get (D := g.1) (ci := 6) (v := .ref (an 0)) (C := RX6) (T := TX6) (N := 3) hx hb hts inX6_announce_RX6 hown hK hP 0 rfl rfl 0 (Nat.le_of_ble_eq_true rfl) (hts _ (List.mem_of_getElem? (i := 1) rfl)) (fun _ h9 => h9) rfl dX6_announce_23 ?_
  obtain ⟨o26, hc26, h⟩ := az_bnd h
  refine az_callPv (w2 := az_w6 g ax an au V (az_cV g au T ++ az_cH g ax aw o26.1 o26.2)) (As := [.ref (an 0)]) (rest := []) ⟨hx, hb, hml, hown, hts⟩ hl.1 (kX1_save l g ax an aw S hs V o26 hc26) (cwV 1 hts gX6_announce_X1_save rfl rfl rfl (by decide +kernel) ⟨(Nat.le_of_ble_eq_true rfl), (Nat.le_of_ble_eq_true rfl)⟩) rfl hK hP hD hS hA (az_pH (az_x ax an au) (az_cV g an V) (az_cV g au T) (az_cH g ax aw S hs)) (az_pH (az_x ax an au) (az_cV g an V) (az_cV g au T) (az_cH g ax aw o26.1 o26.2)).symm 0 rfl rfl rfl (Nat.le_of_ble_eq_true rfl) dX6_announce_26 ⟨(Nat.le_of_ble_eq_true rfl), (Nat.le_of_ble_eq_true rfl)⟩ rfl (fun H locs hP hD hS => ?_)
  have hP : va_P g.1 az_cl (az_w6 g ax an au V (az_cV g au T ++ az_cH g ax aw o26.1 o26.2)) _ := hP
  have hD : va_D A (az_w6 g ax an au V (az_cV g au T ++ az_cH g ax aw o26.1 o26.2)) := hD
  refine lv_aload_n hx hb dX6_announce_29 rfl (lv_at hl 0 rfl) ?_
  refine va_get (D := g.1) (ci := 6) (v := .ref (an 0)) (C := RX6) (T := TX6) (N := 3) hx hb hts inX6_announce_RX6 hown hK hP 0 rfl rfl 0 (Nat.le_of_ble_eq_true rfl) (hts _ (List.mem_of_getElem? (i := 1) rfl)) (fun _ h9 => h9) rfl dX6_announce_30 ?_
  refine va_get (D := g.1) (ci := 5) (v := .ref (an 13)) (C := RX5) (T := TX5) (N := 11) hx hb hts inX6_announce_RX5 hown hK hP 1 rfl rfl 2 (Nat.le_of_ble_eq_true rfl) (hts _ (List.mem_of_getElem? (i := 2) rfl)) (fun _ h9 => h9) rfl dX6_announce_33 ?_
  refine lv_iload_n hx hb dX6_announce_36 rfl (lv_at hl 1 rfl) ?_
  refine lv_aload_n hx hb dX6_announce_37 rfl (lv_at hl 0 rfl) ?_
  refine va_get (D := g.1) (ci := 6) (v := .ref (an 0)) (C := RX6) (T := TX6) (N := 3) hx hb hts inX6_announce_RX6 hown hK hP 0 rfl rfl 0 (Nat.le_of_ble_eq_true rfl) (hts _ (List.mem_of_getElem? (i := 1) rfl)) (fun _ h9 => h9) rfl dX6_announce_38 ?_
  refine va_get (D := g.1) (ci := 5) (v := .int ((V 16) 1)) (C := RX5) (T := TX5) (N := 11) hx hb hts inX6_announce_RX5 hown hK hP 1 rfl rfl 6 (Nat.le_of_ble_eq_true rfl) (hts _ (List.mem_of_getElem? (i := 4) rfl)) (fun _ h9 => h9) rfl dX6_announce_41 ?_
  obtain ⟨o44, hc44, h⟩ := az_bnd h
  refine az_callPv (w2 := az_w6 g ax an au (va_up (va_up V 11 o44.1) 12 o44.2) (az_cV g au T ++ az_cH g ax aw o26.1 o26.2)) (As := [.int x1, .int ((V 16) 1)]) (rest := []) ⟨hx, hb, hml, hown, hts⟩ hl.1 (kX2_letIn l g an V x1 ((V 16) 1) o44 hc44) (cwV 2 hts gX6_announce_X2_letIn rfl rfl rfl (by decide +kernel) ⟨(Nat.le_of_ble_eq_true rfl), (Nat.le_of_ble_eq_true rfl)⟩) rfl hK hP hD hS hA (az_pm (az_x ax an au :: (az_cV g an V).take 13) (az_cR g an V) ((az_cV g an V).drop 16 ++ (az_cV g au T ++ az_cH g ax aw o26.1 o26.2))) (az_pm (az_x ax an au :: (az_cV g an V).take 13) (az_cR g an (va_up (va_up V 11 o44.1) 12 o44.2)) ((az_cV g an V).drop 16 ++ (az_cV g au T ++ az_cH g ax aw o26.1 o26.2))).symm 0 rfl rfl rfl (Nat.le_of_ble_eq_true rfl) dX6_announce_44 ⟨(Nat.le_of_ble_eq_true rfl), (Nat.le_of_ble_eq_true rfl)⟩ rfl (fun H locs hP hD hS => ?_)
  have hP : va_P g.1 az_cl (az_w6 g ax an au (va_up (va_up V 11 o44.1) 12 o44.2) (az_cV g au T ++ az_cH g ax aw o26.1 o26.2)) _ := hP
  have hD : va_D A (az_w6 g ax an au (va_up (va_up V 11 o44.1) 12 o44.2) (az_cV g au T ++ az_cH g ax aw o26.1 o26.2)) := hD
  refine lv_aload_n hx hb dX6_announce_47 rfl (lv_at hl 0 rfl) ?_
  refine va_get (D := g.1) (ci := 6) (v := .ref (an 0)) (C := RX6) (T := TX6) (N := 3) hx hb hts inX6_announce_RX6 hown hK hP 0 rfl rfl 0 (Nat.le_of_ble_eq_true rfl) (hts _ (List.mem_of_getElem? (i := 1) rfl)) (fun _ h9 => h9) rfl dX6_announce_48 ?_
  refine va_get (D := g.1) (ci := 5) (v := .ref (an 6)) (C := RX5) (T := TX5) (N := 11) hx hb hts inX6_announce_RX5 hown hK hP 1 rfl rfl 1 (Nat.le_of_ble_eq_true rfl) (hts _ (List.mem_of_getElem? (i := 5) rfl)) (fun _ h9 => h9) rfl dX6_announce_51 ?_
  refine lv_iload_n hx hb dX6_announce_54 rfl (lv_at hl 1 rfl) ?_
  obtain ⟨o55, hc55, h⟩ := az_bnd h
  refine az_callPi (w2 := az_w6 g ax an au (va_up (va_up (va_up V 10 o55.2) 11 o44.1) 12 o44.2) (az_cV g au T ++ az_cH g ax aw o26.1 o26.2)) (As := [.int x1]) (rest := []) ⟨hx, hb, hml, hown, hts⟩ hl.1 (kX0_releaseAll l g an (va_up (va_up V 11 o44.1) 12 o44.2) x1 o55 hc55) (cwV 1 hts gX6_announce_X0_releaseAll rfl rfl rfl (by decide +kernel) ⟨(Nat.le_of_ble_eq_true rfl), (Nat.le_of_ble_eq_true rfl)⟩) rfl hK hP hD hS hA (az_pm (az_x ax an au :: (az_cV g an (va_up (va_up V 11 o44.1) 12 o44.2)).take 6) (az_cB g an (va_up (va_up V 11 o44.1) 12 o44.2)) ((az_cV g an (va_up (va_up V 11 o44.1) 12 o44.2)).drop 13 ++ (az_cV g au T ++ az_cH g ax aw o26.1 o26.2))) (az_pm (az_x ax an au :: (az_cV g an (va_up (va_up V 11 o44.1) 12 o44.2)).take 6) (az_cB g an (va_up (va_up (va_up V 10 o55.2) 11 o44.1) 12 o44.2)) ((az_cV g an (va_up (va_up V 11 o44.1) 12 o44.2)).drop 13 ++ (az_cV g au T ++ az_cH g ax aw o26.1 o26.2))).symm 0 rfl rfl rfl (Nat.le_of_ble_eq_true rfl) dX6_announce_55 ⟨(Nat.le_of_ble_eq_true rfl), (Nat.le_of_ble_eq_true rfl)⟩ rfl (fun H locs hP hD hS => ?_)
  have hP : va_P g.1 az_cl (az_w6 g ax an au (va_up (va_up (va_up V 10 o55.2) 11 o44.1) 12 o44.2) (az_cV g au T ++ az_cH g ax aw o26.1 o26.2)) _ := hP
  have hD : va_D A (az_w6 g ax an au (va_up (va_up (va_up V 10 o55.2) 11 o44.1) 12 o44.2) (az_cV g au T ++ az_cH g ax aw o26.1 o26.2)) := hD
  have hP : va_P g.1 az_cl (az_w6 g ax an au (va_up (va_up (va_up V 10 o55.2) 11 o44.1) 12 o44.2) (az_cV g au T ++ az_cH g ax aw o26.1 o26.2)) _ := hP
  have hD : va_D A (az_w6 g ax an au (va_up (va_up (va_up V 10 o55.2) 11 o44.1) 12 o44.2) (az_cV g au T ++ az_cH g ax aw o26.1 o26.2)) := hD
  rw [← Option.some.inj h]
  exact az_iretT hx hb hr hlocks hK hP hD hS dX6_announce_58 (Nat.le_of_ble_eq_true rfl) (Nat.le_of_ble_eq_true rfl)

def FX6_hold (V : az_St) (T : az_St) (S : Nat → az_St) (hs : Nat → Int32) (x1 : Int32) (x2 : Int32) : Option (Nat × Int32 × (Nat → az_St) × (Nat → Int32) × (Nat → Int32)) := (FX6_checkReader x1).bind (fun o1 => if o1 = 0 then ((FX6_checkKey x2).bind (fun o5 => if o5 = 0 then ((FX2_isInside V x1).bind (fun o16 => (FX6_checkState o16).bind (fun o19 => if o19 = 0 then (if az_in x2 24 = true then if (V 15) x2.toNatClampNeg = (-1 : Int32) then ((FX6_checkElement (0 : Int32)).bind (fun o42 => if o42 = 0 then ((FX1_save S hs V).bind (fun o53 => (FX0_addHolder V ((V 15) x2.toNatClampNeg) x1).bind (fun o65 => some (0, (V 15) x2.toNatClampNeg, o53.1, o65, o53.2)))) else some (o42, (0 : Int32), S, (V 10), hs))) else ((FX6_checkElement (1 : Int32)).bind (fun o42 => if o42 = 0 then ((FX1_save S hs V).bind (fun o53 => (FX0_addHolder V ((V 15) x2.toNatClampNeg) x1).bind (fun o65 => some (0, (V 15) x2.toNatClampNeg, o53.1, o65, o53.2)))) else some (o42, (0 : Int32), S, (V 10), hs))) else none) else some (o19, (0 : Int32), S, (V 10), hs)))) else some (o5, (0 : Int32), S, (V 10), hs))) else some (o1, (0 : Int32), S, (V 10), hs))
theorem inX6_hold_RX5 : ∀ w ∈ wsX50, w ∈ wsX6_hold := az_inr [114, 115, 116, 117, 118, 119, 120, 121, 122, 123, 124] (by decide +kernel)
theorem inX6_hold_RX6 : ∀ w ∈ wsX60, w ∈ wsX6_hold := az_inr [111, 112, 113] (by decide +kernel)
set_option maxHeartbeats 4000000 in
set_option maxRecDepth 100000 in
theorem kX6_hold (l : Launch) (hst : l.stackTraces = false) (g : az_G) (sa : Nat → Nat) (ax : Nat → Nat) (an : Nat → Nat) (au : Nat → Nat) (aw : Nat → Nat → Nat) (V : az_St) (T : az_St) (S : Nat → az_St) (hs : Nat → Int32) (x1 : Int32) (x2 : Int32) (o : Nat × Int32 × (Nat → az_St) × (Nat → Int32) × (Nat → Int32)) (h : FX6_hold V T S hs x1 x2 = some o) : az_TI l yX6_hold wsX6_hold ({ frames := 8, cells := 4, slots := 24, locals := 164 } : Room) [.ref (ax 0), .int x1, .int x2] g sa (az_w6 g ax an au V (az_cV g au T ++ az_cH g ax aw S hs)) o.1 o.2.1 (az_w6 g ax an au (va_up V 10 o.2.2.2.1) (az_cV g au T ++ az_cH g ax aw o.2.2.1 o.2.2.2.2)) 4 := by
  refine az_bodyT (cc := cX6_hold) (maxL := 4) (ret := (some .int)) (mc := 4) (ms := 24) (Qc := fun A => az_QTI g (az_w6 g ax an au (va_up V 10 o.2.2.2.1) (az_cV g au T ++ az_cH g ax aw o.2.2.1 o.2.2.2.2)) o.1 o.2.1 A) (XC := fun A => az_XT g (az_w6 g ax an au (va_up V 10 o.2.2.2.1) (az_cV g au T ++ az_cH g ax aw o.2.2.1 o.2.2.2.2)) o.1 A) (by decide +kernel) rfl (Nat.le_of_ble_eq_true rfl) ?_
  intro p e s m args below meth c A hx hb hr hts hown hml hlocks hex hcx hA hK hP hD hS ls hl
  have hl : lv_has ls 4 [(0, .ref (ax 0)), (1, .int x1), (2, .int x2)] := hl
  unfold FX6_hold at h
  refine lv_iload_n hx hb dX6_hold_0 rfl (lv_at hl 1 rfl) ?_
  obtain ⟨o1, hc1, h⟩ := az_bnd h
  refine az_callST (As := [.int x1]) (rest := []) ⟨hx, hb, hml, hown, hts⟩ hl.1 (kX6_checkReader l hst g sa x1 o1 hc1) (va_cwS 1 hts gX6_hold_X6_checkReader rfl rfl rfl (by decide +kernel) ⟨(Nat.le_of_ble_eq_true rfl), (Nat.le_of_ble_eq_true rfl)⟩) rfl hK hcx hP hS hA (Nat.le_of_ble_eq_true rfl) dX6_hold_1 ⟨(Nat.le_of_ble_eq_true rfl), (Nat.le_of_ble_eq_true rfl)⟩ rfl (fun n1 ce q9 H locs hP hS hce hcv hcl => ?_) (fun c1 H locs hP hS => ?_)
  · replace h := az_neg n1 h
    have hP : va_P g.1 az_cl (az_w6 g ax an au (va_up V 10 (V 10)) (az_cV g au T ++ az_cH g ax aw S hs)) _ := hP
    have hD : va_D A (az_w6 g ax an au (va_up V 10 (V 10)) (az_cV g au T ++ az_cH g ax aw S hs)) := hD
    rw [← Option.some.inj h]
    exact az_outT n1 hex hlocks hce hcv hcl hK hP hD hS (Nat.le_of_ble_eq_true rfl) (Nat.le_of_ble_eq_true rfl)
  replace h := az_pos c1 h
  refine lv_iload_n hx hb dX6_hold_4 rfl (lv_at hl 2 rfl) ?_
  obtain ⟨o5, hc5, h⟩ := az_bnd h
  refine az_callST (As := [.int x2]) (rest := []) ⟨hx, hb, hml, hown, hts⟩ hl.1 (kX6_checkKey l hst g sa x2 o5 hc5) (va_cwS 1 hts gX6_hold_X6_checkKey rfl rfl rfl (by decide +kernel) ⟨(Nat.le_of_ble_eq_true rfl), (Nat.le_of_ble_eq_true rfl)⟩) rfl hK hcx hP hS hA (Nat.le_of_ble_eq_true rfl) dX6_hold_5 ⟨(Nat.le_of_ble_eq_true rfl), (Nat.le_of_ble_eq_true rfl)⟩ rfl (fun n5 ce q9 H locs hP hS hce hcv hcl => ?_) (fun c5 H locs hP hS => ?_)
  · replace h := az_neg n5 h
    have hP : va_P g.1 az_cl (az_w6 g ax an au (va_up V 10 (V 10)) (az_cV g au T ++ az_cH g ax aw S hs)) _ := hP
    have hD : va_D A (az_w6 g ax an au (va_up V 10 (V 10)) (az_cV g au T ++ az_cH g ax aw S hs)) := hD
    rw [← Option.some.inj h]
    exact az_outT n5 hex hlocks hce hcv hcl hK hP hD hS (Nat.le_of_ble_eq_true rfl) (Nat.le_of_ble_eq_true rfl)
  replace h := az_pos c5 h
  refine lv_aload_n hx hb dX6_hold_8 rfl (lv_at hl 0 rfl) ?_
  refine va_get (D := g.1) (ci := 6) (v := .ref (an 0)) (C := RX6) (T := TX6) (N := 3) hx hb hts inX6_hold_RX6 hown hK hP 0 rfl rfl 0 (Nat.le_of_ble_eq_true rfl) (hts _ (List.mem_of_getElem? (i := 1) rfl)) (fun _ h9 => h9) rfl dX6_hold_9 ?_
  refine va_get (D := g.1) (ci := 5) (v := .ref (an 13)) (C := RX5) (T := TX5) (N := 11) hx hb hts inX6_hold_RX5 hown hK hP 1 rfl rfl 2 (Nat.le_of_ble_eq_true rfl) (hts _ (List.mem_of_getElem? (i := 2) rfl)) (fun _ h9 => h9) rfl dX6_hold_12 ?_
  refine lv_iload_n hx hb dX6_hold_15 rfl (lv_at hl 1 rfl) ?_
  obtain ⟨o16, hc16, h⟩ := az_bnd h
  refine az_callPi (w2 := az_w6 g ax an au V (az_cV g au T ++ az_cH g ax aw S hs)) (As := [.int x1]) (rest := []) ⟨hx, hb, hml, hown, hts⟩ hl.1 (kX2_isInside l g an V x1 o16 hc16) (cwV 1 hts gX6_hold_X2_isInside rfl rfl rfl (by decide +kernel) ⟨(Nat.le_of_ble_eq_true rfl), (Nat.le_of_ble_eq_true rfl)⟩) rfl hK hP hD hS hA (az_pm (az_x ax an au :: (az_cV g an V).take 13) (az_cR g an V) ((az_cV g an V).drop 16 ++ (az_cV g au T ++ az_cH g ax aw S hs))) (az_pm (az_x ax an au :: (az_cV g an V).take 13) (az_cR g an V) ((az_cV g an V).drop 16 ++ (az_cV g au T ++ az_cH g ax aw S hs))).symm 0 rfl rfl rfl (Nat.le_of_ble_eq_true rfl) dX6_hold_16 ⟨(Nat.le_of_ble_eq_true rfl), (Nat.le_of_ble_eq_true rfl)⟩ rfl (fun H locs hP hD hS => ?_)
  have hP : va_P g.1 az_cl (az_w6 g ax an au V (az_cV g au T ++ az_cH g ax aw S hs)) _ := hP
  have hD : va_D A (az_w6 g ax an au V (az_cV g au T ++ az_cH g ax aw S hs)) := hD
  obtain ⟨o19, hc19, h⟩ := az_bnd h
  refine az_callST (As := [.int o16]) (rest := []) ⟨hx, hb, hml, hown, hts⟩ hl.1 (kX6_checkState l hst g sa o16 o19 hc19) (va_cwS 1 hts gX6_hold_X6_checkState rfl rfl rfl (by decide +kernel) ⟨(Nat.le_of_ble_eq_true rfl), (Nat.le_of_ble_eq_true rfl)⟩) rfl hK hcx hP hS hA (Nat.le_of_ble_eq_true rfl) dX6_hold_19 ⟨(Nat.le_of_ble_eq_true rfl), (Nat.le_of_ble_eq_true rfl)⟩ rfl (fun n19 ce q9 H locs hP hS hce hcv hcl => ?_) (fun c19 H locs hP hS => ?_)
  · replace h := az_neg n19 h
    have hP : va_P g.1 az_cl (az_w6 g ax an au (va_up V 10 (V 10)) (az_cV g au T ++ az_cH g ax aw S hs)) _ := hP
    have hD : va_D A (az_w6 g ax an au (va_up V 10 (V 10)) (az_cV g au T ++ az_cH g ax aw S hs)) := hD
    rw [← Option.some.inj h]
    exact az_outT n19 hex hlocks hce hcv hcl hK hP hD hS (Nat.le_of_ble_eq_true rfl) (Nat.le_of_ble_eq_true rfl)
  replace h := az_pos c19 h
  refine lv_aload_n hx hb dX6_hold_22 rfl (lv_at hl 0 rfl) ?_
  refine va_get (D := g.1) (ci := 6) (v := .ref (an 0)) (C := RX6) (T := TX6) (N := 3) hx hb hts inX6_hold_RX6 hown hK hP 0 rfl rfl 0 (Nat.le_of_ble_eq_true rfl) (hts _ (List.mem_of_getElem? (i := 1) rfl)) (fun _ h9 => h9) rfl dX6_hold_23 ?_
  refine va_get (D := g.1) (ci := 5) (v := .ref (an 19)) (C := RX5) (T := TX5) (N := 11) hx hb hts inX6_hold_RX5 hown hK hP 1 rfl rfl 4 (Nat.le_of_ble_eq_true rfl) (hts _ (List.mem_of_getElem? (i := 3) rfl)) (fun _ h9 => h9) rfl dX6_hold_26 ?_
  refine lv_iload_n hx hb dX6_hold_29 rfl (lv_at hl 2 rfl) ?_
  obtain ⟨i30, h⟩ := az_ite h
  refine va_iald (D := g.1) (f := (V 15)) hx hb hK hP 20 0 rfl rfl (az_vin i30) dX6_hold_30 ?_
  refine lv_istore_n (lv' := [(3, .int ((V 15) x2.toNatClampNeg)), (0, .ref (ax 0)), (1, .int x1), (2, .int x2)]) hx hb dX6_hold_31 rfl hl (by decide) rfl (fun ls hl => ?_)
  refine lv_iload_n hx hb dX6_hold_32 rfl (lv_at hl 0 rfl) ?_
  refine lv_iconst (v := (-1 : Int32)) hx hb dX6_hold_33 (by decide) ?_
  refine lv_icmp_eq (tgt := 41) hx hb dX6_hold_34 (by decide) (fun c34 => ?_) (fun c34 => ?_)
  · replace h := az_pos c34 h
    refine lv_iconst (v := (0 : Int32)) hx hb dX6_hold_41 (by decide) ?_
    obtain ⟨o42, hc42, h⟩ := az_bnd h
    refine az_callST (As := [.int (0 : Int32)]) (rest := []) ⟨hx, hb, hml, hown, hts⟩ hl.1 (kX6_checkElement l hst g sa (0 : Int32) o42 hc42) (va_cwS 1 hts gX6_hold_X6_checkElement rfl rfl rfl (by decide +kernel) ⟨(Nat.le_of_ble_eq_true rfl), (Nat.le_of_ble_eq_true rfl)⟩) rfl hK hcx hP hS hA (Nat.le_of_ble_eq_true rfl) dX6_hold_42 ⟨(Nat.le_of_ble_eq_true rfl), (Nat.le_of_ble_eq_true rfl)⟩ rfl (fun n42 ce q9 H locs hP hS hce hcv hcl => ?_) (fun c42 H locs hP hS => ?_)
    · replace h := az_neg n42 h
      have hP : va_P g.1 az_cl (az_w6 g ax an au (va_up V 10 (V 10)) (az_cV g au T ++ az_cH g ax aw S hs)) _ := hP
      have hD : va_D A (az_w6 g ax an au (va_up V 10 (V 10)) (az_cV g au T ++ az_cH g ax aw S hs)) := hD
      rw [← Option.some.inj h]
      exact az_outT n42 hex hlocks hce hcv hcl hK hP hD hS (Nat.le_of_ble_eq_true rfl) (Nat.le_of_ble_eq_true rfl)
    replace h := az_pos c42 h
    refine lv_aload_n hx hb dX6_hold_45 rfl (lv_at hl 1 rfl) ?_
    refine va_get (D := g.1) (ci := 6) (v := .ref (ax 1)) (C := RX6) (T := TX6) (N := 3) hx hb hts inX6_hold_RX6 hown hK hP 0 rfl rfl 2 (Nat.le_of_ble_eq_true rfl) (hts _ (List.mem_of_getElem? (i := 4) rfl)) (fun _ h9 => h9) rfl dX6_hold_46 ?_
    refine lv_aload_n hx hb dX6_hold_49 rfl (lv_at hl 1 rfl) ?_
    refine va_get (D := g.1) (ci := 6) (v := .ref (an 0)) (C := RX6) (T := TX6) (N := 3) hx hb hts inX6_hold_RX6 hown hK hP 0 rfl rfl 0 (Nat.le_of_ble_eq_true rfl) (hts _ (List.mem_of_getElem? (i := 1) rfl)) (fun _ h9 => h9) rfl dX6_hold_50 ?_
    obtain ⟨o53, hc53, h⟩ := az_bnd h
    refine az_callPv (w2 := az_w6 g ax an au V (az_cV g au T ++ az_cH g ax aw o53.1 o53.2)) (As := [.ref (an 0)]) (rest := []) ⟨hx, hb, hml, hown, hts⟩ hl.1 (kX1_save l g ax an aw S hs V o53 hc53) (cwV 1 hts gX6_hold_X1_save rfl rfl rfl (by decide +kernel) ⟨(Nat.le_of_ble_eq_true rfl), (Nat.le_of_ble_eq_true rfl)⟩) rfl hK hP hD hS hA (az_pH (az_x ax an au) (az_cV g an V) (az_cV g au T) (az_cH g ax aw S hs)) (az_pH (az_x ax an au) (az_cV g an V) (az_cV g au T) (az_cH g ax aw o53.1 o53.2)).symm 0 rfl rfl rfl (Nat.le_of_ble_eq_true rfl) dX6_hold_53 ⟨(Nat.le_of_ble_eq_true rfl), (Nat.le_of_ble_eq_true rfl)⟩ rfl (fun H locs hP hD hS => ?_)
    have hP : va_P g.1 az_cl (az_w6 g ax an au V (az_cV g au T ++ az_cH g ax aw o53.1 o53.2)) _ := hP
    have hD : va_D A (az_w6 g ax an au V (az_cV g au T ++ az_cH g ax aw o53.1 o53.2)) := hD
    refine lv_aload_n hx hb dX6_hold_56 rfl (lv_at hl 1 rfl) ?_
    refine va_get (D := g.1) (ci := 6) (v := .ref (an 0)) (C := RX6) (T := TX6) (N := 3) hx hb hts inX6_hold_RX6 hown hK hP 0 rfl rfl 0 (Nat.le_of_ble_eq_true rfl) (hts _ (List.mem_of_getElem? (i := 1) rfl)) (fun _ h9 => h9) rfl dX6_hold_57 ?_
    refine va_get (D := g.1) (ci := 5) (v := .ref (an 6)) (C := RX5) (T := TX5) (N := 11) hx hb hts inX6_hold_RX5 hown hK hP 1 rfl rfl 1 (Nat.le_of_ble_eq_true rfl) (hts _ (List.mem_of_getElem? (i := 5) rfl)) (fun _ h9 => h9) rfl dX6_hold_60 ?_
    refine lv_iload_n hx hb dX6_hold_63 rfl (lv_at hl 0 rfl) ?_
    refine lv_iload_n hx hb dX6_hold_64 rfl (lv_at hl 2 rfl) ?_
    obtain ⟨o65, hc65, h⟩ := az_bnd h
    refine az_callPv (w2 := az_w6 g ax an au (va_up V 10 o65) (az_cV g au T ++ az_cH g ax aw o53.1 o53.2)) (As := [.int ((V 15) x2.toNatClampNeg), .int x1]) (rest := []) ⟨hx, hb, hml, hown, hts⟩ hl.1 (kX0_addHolder l g an V ((V 15) x2.toNatClampNeg) x1 o65 hc65) (cwV 2 hts gX6_hold_X0_addHolder rfl rfl rfl (by decide +kernel) ⟨(Nat.le_of_ble_eq_true rfl), (Nat.le_of_ble_eq_true rfl)⟩) rfl hK hP hD hS hA (az_pm (az_x ax an au :: (az_cV g an V).take 6) (az_cB g an V) ((az_cV g an V).drop 13 ++ (az_cV g au T ++ az_cH g ax aw o53.1 o53.2))) (az_pm (az_x ax an au :: (az_cV g an V).take 6) (az_cB g an (va_up V 10 o65)) ((az_cV g an V).drop 13 ++ (az_cV g au T ++ az_cH g ax aw o53.1 o53.2))).symm 0 rfl rfl rfl (Nat.le_of_ble_eq_true rfl) dX6_hold_65 ⟨(Nat.le_of_ble_eq_true rfl), (Nat.le_of_ble_eq_true rfl)⟩ rfl (fun H locs hP hD hS => ?_)
    have hP : va_P g.1 az_cl (az_w6 g ax an au (va_up V 10 o65) (az_cV g au T ++ az_cH g ax aw o53.1 o53.2)) _ := hP
    have hD : va_D A (az_w6 g ax an au (va_up V 10 o65) (az_cV g au T ++ az_cH g ax aw o53.1 o53.2)) := hD
    refine lv_iload_n hx hb dX6_hold_68 rfl (lv_at hl 0 rfl) ?_
    have hP : va_P g.1 az_cl (az_w6 g ax an au (va_up V 10 o65) (az_cV g au T ++ az_cH g ax aw o53.1 o53.2)) _ := hP
    have hD : va_D A (az_w6 g ax an au (va_up V 10 o65) (az_cV g au T ++ az_cH g ax aw o53.1 o53.2)) := hD
    rw [← Option.some.inj h]
    exact az_iretT hx hb hr hlocks hK hP hD hS dX6_hold_69 (Nat.le_of_ble_eq_true rfl) (Nat.le_of_ble_eq_true rfl)
  · replace h := az_neg c34 h
    refine lv_iconst (v := (1 : Int32)) hx hb dX6_hold_37 (by decide) ?_
    refine lv_goto (tgt := 42) hx hb dX6_hold_38 (by decide) ?_
    obtain ⟨o42, hc42, h⟩ := az_bnd h
    refine az_callST (As := [.int (1 : Int32)]) (rest := []) ⟨hx, hb, hml, hown, hts⟩ hl.1 (kX6_checkElement l hst g sa (1 : Int32) o42 hc42) (va_cwS 1 hts gX6_hold_X6_checkElement rfl rfl rfl (by decide +kernel) ⟨(Nat.le_of_ble_eq_true rfl), (Nat.le_of_ble_eq_true rfl)⟩) rfl hK hcx hP hS hA (Nat.le_of_ble_eq_true rfl) dX6_hold_42 ⟨(Nat.le_of_ble_eq_true rfl), (Nat.le_of_ble_eq_true rfl)⟩ rfl (fun n42 ce q9 H locs hP hS hce hcv hcl => ?_) (fun c42 H locs hP hS => ?_)
    · replace h := az_neg n42 h
      have hP : va_P g.1 az_cl (az_w6 g ax an au (va_up V 10 (V 10)) (az_cV g au T ++ az_cH g ax aw S hs)) _ := hP
      have hD : va_D A (az_w6 g ax an au (va_up V 10 (V 10)) (az_cV g au T ++ az_cH g ax aw S hs)) := hD
      rw [← Option.some.inj h]
      exact az_outT n42 hex hlocks hce hcv hcl hK hP hD hS (Nat.le_of_ble_eq_true rfl) (Nat.le_of_ble_eq_true rfl)
    replace h := az_pos c42 h
    refine lv_aload_n hx hb dX6_hold_45 rfl (lv_at hl 1 rfl) ?_
    refine va_get (D := g.1) (ci := 6) (v := .ref (ax 1)) (C := RX6) (T := TX6) (N := 3) hx hb hts inX6_hold_RX6 hown hK hP 0 rfl rfl 2 (Nat.le_of_ble_eq_true rfl) (hts _ (List.mem_of_getElem? (i := 4) rfl)) (fun _ h9 => h9) rfl dX6_hold_46 ?_
    refine lv_aload_n hx hb dX6_hold_49 rfl (lv_at hl 1 rfl) ?_
    refine va_get (D := g.1) (ci := 6) (v := .ref (an 0)) (C := RX6) (T := TX6) (N := 3) hx hb hts inX6_hold_RX6 hown hK hP 0 rfl rfl 0 (Nat.le_of_ble_eq_true rfl) (hts _ (List.mem_of_getElem? (i := 1) rfl)) (fun _ h9 => h9) rfl dX6_hold_50 ?_
    obtain ⟨o53, hc53, h⟩ := az_bnd h
    refine az_callPv (w2 := az_w6 g ax an au V (az_cV g au T ++ az_cH g ax aw o53.1 o53.2)) (As := [.ref (an 0)]) (rest := []) ⟨hx, hb, hml, hown, hts⟩ hl.1 (kX1_save l g ax an aw S hs V o53 hc53) (cwV 1 hts gX6_hold_X1_save rfl rfl rfl (by decide +kernel) ⟨(Nat.le_of_ble_eq_true rfl), (Nat.le_of_ble_eq_true rfl)⟩) rfl hK hP hD hS hA (az_pH (az_x ax an au) (az_cV g an V) (az_cV g au T) (az_cH g ax aw S hs)) (az_pH (az_x ax an au) (az_cV g an V) (az_cV g au T) (az_cH g ax aw o53.1 o53.2)).symm 0 rfl rfl rfl (Nat.le_of_ble_eq_true rfl) dX6_hold_53 ⟨(Nat.le_of_ble_eq_true rfl), (Nat.le_of_ble_eq_true rfl)⟩ rfl (fun H locs hP hD hS => ?_)
    have hP : va_P g.1 az_cl (az_w6 g ax an au V (az_cV g au T ++ az_cH g ax aw o53.1 o53.2)) _ := hP
    have hD : va_D A (az_w6 g ax an au V (az_cV g au T ++ az_cH g ax aw o53.1 o53.2)) := hD
    refine lv_aload_n hx hb dX6_hold_56 rfl (lv_at hl 1 rfl) ?_
    refine va_get (D := g.1) (ci := 6) (v := .ref (an 0)) (C := RX6) (T := TX6) (N := 3) hx hb hts inX6_hold_RX6 hown hK hP 0 rfl rfl 0 (Nat.le_of_ble_eq_true rfl) (hts _ (List.mem_of_getElem? (i := 1) rfl)) (fun _ h9 => h9) rfl dX6_hold_57 ?_
    refine va_get (D := g.1) (ci := 5) (v := .ref (an 6)) (C := RX5) (T := TX5) (N := 11) hx hb hts inX6_hold_RX5 hown hK hP 1 rfl rfl 1 (Nat.le_of_ble_eq_true rfl) (hts _ (List.mem_of_getElem? (i := 5) rfl)) (fun _ h9 => h9) rfl dX6_hold_60 ?_
    refine lv_iload_n hx hb dX6_hold_63 rfl (lv_at hl 0 rfl) ?_
    refine lv_iload_n hx hb dX6_hold_64 rfl (lv_at hl 2 rfl) ?_
    obtain ⟨o65, hc65, h⟩ := az_bnd h
    refine az_callPv (w2 := az_w6 g ax an au (va_up V 10 o65) (az_cV g au T ++ az_cH g ax aw o53.1 o53.2)) (As := [.int ((V 15) x2.toNatClampNeg), .int x1]) (rest := []) ⟨hx, hb, hml, hown, hts⟩ hl.1 (kX0_addHolder l g an V ((V 15) x2.toNatClampNeg) x1 o65 hc65) (cwV 2 hts gX6_hold_X0_addHolder rfl rfl rfl (by decide +kernel) ⟨(Nat.le_of_ble_eq_true rfl), (Nat.le_of_ble_eq_true rfl)⟩) rfl hK hP hD hS hA (az_pm (az_x ax an au :: (az_cV g an V).take 6) (az_cB g an V) ((az_cV g an V).drop 13 ++ (az_cV g au T ++ az_cH g ax aw o53.1 o53.2))) (az_pm (az_x ax an au :: (az_cV g an V).take 6) (az_cB g an (va_up V 10 o65)) ((az_cV g an V).drop 13 ++ (az_cV g au T ++ az_cH g ax aw o53.1 o53.2))).symm 0 rfl rfl rfl (Nat.le_of_ble_eq_true rfl) dX6_hold_65 ⟨(Nat.le_of_ble_eq_true rfl), (Nat.le_of_ble_eq_true rfl)⟩ rfl (fun H locs hP hD hS => ?_)
    have hP : va_P g.1 az_cl (az_w6 g ax an au (va_up V 10 o65) (az_cV g au T ++ az_cH g ax aw o53.1 o53.2)) _ := hP
    have hD : va_D A (az_w6 g ax an au (va_up V 10 o65) (az_cV g au T ++ az_cH g ax aw o53.1 o53.2)) := hD
    refine lv_iload_n hx hb dX6_hold_68 rfl (lv_at hl 0 rfl) ?_
    have hP : va_P g.1 az_cl (az_w6 g ax an au (va_up V 10 o65) (az_cV g au T ++ az_cH g ax aw o53.1 o53.2)) _ := hP
    have hD : va_D A (az_w6 g ax an au (va_up V 10 o65) (az_cV g au T ++ az_cH g ax aw o53.1 o53.2)) := hD
    rw [← Option.some.inj h]
    exact az_iretT hx hb hr hlocks hK hP hD hS dX6_hold_69 (Nat.le_of_ble_eq_true rfl) (Nat.le_of_ble_eq_true rfl)

def FX6_checkAddress (V : az_St) (x1 : Int32) : Option (Nat) := if x1 < (0 : Int32) then ((FX6_checkIndex (0 : Int32)).bind (fun o43 => if o43 = 0 then (some (0)) else some o43)) else (if (V 4) 0 ≤ x1 / (16 : Int32) then ((FX6_checkIndex (0 : Int32)).bind (fun o43 => if o43 = 0 then (some (0)) else some o43)) else (if (V 4) 1 ≤ x1 - x1 / (16 : Int32) * (16 : Int32) then ((FX6_checkIndex (0 : Int32)).bind (fun o43 => if o43 = 0 then (some (0)) else some o43)) else ((FX6_checkIndex (1 : Int32)).bind (fun o43 => if o43 = 0 then (some (0)) else some o43))))
theorem inX6_checkAddress_RX3 : ∀ w ∈ wsX30, w ∈ wsX6_checkAddress := az_inr [25, 26, 27, 28, 29, 30] (by decide +kernel)
theorem inX6_checkAddress_RX5 : ∀ w ∈ wsX50, w ∈ wsX6_checkAddress := az_inr [14, 15, 16, 17, 18, 19, 20, 21, 22, 23, 24] (by decide +kernel)
theorem inX6_checkAddress_RX6 : ∀ w ∈ wsX60, w ∈ wsX6_checkAddress := az_inr [11, 12, 13] (by decide +kernel)
set_option maxHeartbeats 4000000 in
set_option maxRecDepth 100000 in
theorem kX6_checkAddress (l : Launch) (hst : l.stackTraces = false) (g : az_G) (sa : Nat → Nat) (ax : Nat → Nat) (an : Nat → Nat) (au : Nat → Nat) (Y : va_W) (V : az_St) (x1 : Int32) (o : Nat) (h : FX6_checkAddress V x1 = some o) : az_TV l yX6_checkAddress wsX6_checkAddress ({ frames := 7, cells := 1, slots := 6, locals := 120 } : Room) [.ref (ax 0), .int x1] g sa (az_w6 g ax an au V Y) o (az_w6 g ax an au V Y) 1 := by
  refine az_bodyT (cc := cX6_checkAddress) (maxL := 2) (ret := none) (mc := 1) (ms := 6) (Qc := fun A => az_QTV g (az_w6 g ax an au V Y) o A) (XC := fun A => az_XT g (az_w6 g ax an au V Y) o A) (by decide +kernel) rfl (Nat.le_of_ble_eq_true rfl) ?_
  intro p e s m args below meth c A hx hb hr hts hown hml hlocks hex hcx hA hK hP hD hS ls hl
  have hl : lv_has ls 2 [(0, .ref (ax 0)), (1, .int x1)] := hl
  unfold FX6_checkAddress at h
  refine lv_iload_n hx hb dX6_checkAddress_0 rfl (lv_at hl 1 rfl) ?_
  refine lv_if_lt (tgt := 42) hx hb dX6_checkAddress_1 (by decide) (fun c1 => ?_) (fun c1 => ?_)
  · replace h := az_pos c1 h
    refine lv_iconst (v := (0 : Int32)) hx hb dX6_checkAddress_42 (by decide) ?_
    obtain ⟨o43, hc43, h⟩ := az_bnd h
    refine az_callST (As := [.int (0 : Int32)]) (rest := []) ⟨hx, hb, hml, hown, hts⟩ hl.1 (kX6_checkIndex l hst g sa (0 : Int32) o43 hc43) (va_cwS 1 hts gX6_checkAddress_X6_checkIndex rfl rfl rfl (by decide +kernel) ⟨(Nat.le_of_ble_eq_true rfl), (Nat.le_of_ble_eq_true rfl)⟩) rfl hK hcx hP hS hA (Nat.le_of_ble_eq_true rfl) dX6_checkAddress_43 ⟨(Nat.le_of_ble_eq_true rfl), (Nat.le_of_ble_eq_true rfl)⟩ rfl (fun n43 ce q9 H locs hP hS hce hcv hcl => ?_) (fun c43 H locs hP hS => ?_)
    · replace h := az_neg n43 h
      have hP : va_P g.1 az_cl (az_w6 g ax an au V Y) _ := hP
      have hD : va_D A (az_w6 g ax an au V Y) := hD
      rw [← Option.some.inj h]
      exact az_outT n43 hex hlocks hce hcv hcl hK hP hD hS (Nat.le_of_ble_eq_true rfl) (Nat.le_of_ble_eq_true rfl)
    replace h := az_pos c43 h
    have hP : va_P g.1 az_cl (az_w6 g ax an au V Y) _ := hP
    have hD : va_D A (az_w6 g ax an au V Y) := hD
    rw [← Option.some.inj h]
    exact az_vretT hx hb hr hlocks hK hP hD hS dX6_checkAddress_46 (Nat.le_of_ble_eq_true rfl) (Nat.le_of_ble_eq_true rfl)
  · replace h := az_neg c1 h
    refine lv_iload_n hx hb dX6_checkAddress_4 rfl (lv_at hl 1 rfl) ?_
    refine lv_bipush (v := (16 : Int32)) hx hb dX6_checkAddress_5 (by decide) ?_
    refine lv_idiv hx hb dX6_checkAddress_7 (by decide) ?_
    refine lv_aload_n hx hb dX6_checkAddress_8 rfl (lv_at hl 0 rfl) ?_
    refine va_get (D := g.1) (ci := 6) (v := .ref (an 0)) (C := RX6) (T := TX6) (N := 3) hx hb hts inX6_checkAddress_RX6 hown hK hP 0 rfl rfl 0 (Nat.le_of_ble_eq_true rfl) (hts _ (List.mem_of_getElem? (i := 1) rfl)) (fun _ h9 => h9) rfl dX6_checkAddress_9 ?_
    refine va_get (D := g.1) (ci := 5) (v := .ref (an 1)) (C := RX5) (T := TX5) (N := 11) hx hb hts inX6_checkAddress_RX5 hown hK hP 1 rfl rfl 0 (Nat.le_of_ble_eq_true rfl) (hts _ (List.mem_of_getElem? (i := 2) rfl)) (fun _ h9 => h9) rfl dX6_checkAddress_12 ?_
    refine va_get (D := g.1) (ci := 3) (v := .int ((V 4) 0)) (C := RX3) (T := TX3) (N := 6) hx hb hts inX6_checkAddress_RX3 hown hK hP 2 rfl rfl 4 (Nat.le_of_ble_eq_true rfl) (hts _ (List.mem_of_getElem? (i := 3) rfl)) (fun _ h9 => h9) rfl dX6_checkAddress_15 ?_
    refine lv_icmp_ge (tgt := 42) hx hb dX6_checkAddress_18 (by decide) (fun c18 => ?_) (fun c18 => ?_)
    · replace h := az_pos c18 h
      refine lv_iconst (v := (0 : Int32)) hx hb dX6_checkAddress_42 (by decide) ?_
      obtain ⟨o43, hc43, h⟩ := az_bnd h
      refine az_callST (As := [.int (0 : Int32)]) (rest := []) ⟨hx, hb, hml, hown, hts⟩ hl.1 (kX6_checkIndex l hst g sa (0 : Int32) o43 hc43) (va_cwS 1 hts gX6_checkAddress_X6_checkIndex rfl rfl rfl (by decide +kernel) ⟨(Nat.le_of_ble_eq_true rfl), (Nat.le_of_ble_eq_true rfl)⟩) rfl hK hcx hP hS hA (Nat.le_of_ble_eq_true rfl) dX6_checkAddress_43 ⟨(Nat.le_of_ble_eq_true rfl), (Nat.le_of_ble_eq_true rfl)⟩ rfl (fun n43 ce q9 H locs hP hS hce hcv hcl => ?_) (fun c43 H locs hP hS => ?_)
      · replace h := az_neg n43 h
        have hP : va_P g.1 az_cl (az_w6 g ax an au V Y) _ := hP
        have hD : va_D A (az_w6 g ax an au V Y) := hD
        rw [← Option.some.inj h]
        exact az_outT n43 hex hlocks hce hcv hcl hK hP hD hS (Nat.le_of_ble_eq_true rfl) (Nat.le_of_ble_eq_true rfl)
      replace h := az_pos c43 h
      have hP : va_P g.1 az_cl (az_w6 g ax an au V Y) _ := hP
      have hD : va_D A (az_w6 g ax an au V Y) := hD
      rw [← Option.some.inj h]
      exact az_vretT hx hb hr hlocks hK hP hD hS dX6_checkAddress_46 (Nat.le_of_ble_eq_true rfl) (Nat.le_of_ble_eq_true rfl)
    · replace h := az_neg c18 h
      refine lv_iload_n hx hb dX6_checkAddress_21 rfl (lv_at hl 1 rfl) ?_
      refine lv_bipush (v := (16 : Int32)) hx hb dX6_checkAddress_22 (by decide) ?_
      refine lv_irem hx hb dX6_checkAddress_24 (by decide) ?_
      refine lv_aload_n hx hb dX6_checkAddress_25 rfl (lv_at hl 0 rfl) ?_
      refine va_get (D := g.1) (ci := 6) (v := .ref (an 0)) (C := RX6) (T := TX6) (N := 3) hx hb hts inX6_checkAddress_RX6 hown hK hP 0 rfl rfl 0 (Nat.le_of_ble_eq_true rfl) (hts _ (List.mem_of_getElem? (i := 1) rfl)) (fun _ h9 => h9) rfl dX6_checkAddress_26 ?_
      refine va_get (D := g.1) (ci := 5) (v := .ref (an 1)) (C := RX5) (T := TX5) (N := 11) hx hb hts inX6_checkAddress_RX5 hown hK hP 1 rfl rfl 0 (Nat.le_of_ble_eq_true rfl) (hts _ (List.mem_of_getElem? (i := 2) rfl)) (fun _ h9 => h9) rfl dX6_checkAddress_29 ?_
      refine va_get (D := g.1) (ci := 3) (v := .int ((V 4) 1)) (C := RX3) (T := TX3) (N := 6) hx hb hts inX6_checkAddress_RX3 hown hK hP 2 rfl rfl 5 (Nat.le_of_ble_eq_true rfl) (hts _ (List.mem_of_getElem? (i := 4) rfl)) (fun _ h9 => h9) rfl dX6_checkAddress_32 ?_
      refine lv_icmp_ge (tgt := 42) hx hb dX6_checkAddress_35 (by decide) (fun c35 => ?_) (fun c35 => ?_)
      · replace h := az_pos c35 h
        refine lv_iconst (v := (0 : Int32)) hx hb dX6_checkAddress_42 (by decide) ?_
        obtain ⟨o43, hc43, h⟩ := az_bnd h
        refine az_callST (As := [.int (0 : Int32)]) (rest := []) ⟨hx, hb, hml, hown, hts⟩ hl.1 (kX6_checkIndex l hst g sa (0 : Int32) o43 hc43) (va_cwS 1 hts gX6_checkAddress_X6_checkIndex rfl rfl rfl (by decide +kernel) ⟨(Nat.le_of_ble_eq_true rfl), (Nat.le_of_ble_eq_true rfl)⟩) rfl hK hcx hP hS hA (Nat.le_of_ble_eq_true rfl) dX6_checkAddress_43 ⟨(Nat.le_of_ble_eq_true rfl), (Nat.le_of_ble_eq_true rfl)⟩ rfl (fun n43 ce q9 H locs hP hS hce hcv hcl => ?_) (fun c43 H locs hP hS => ?_)
        · replace h := az_neg n43 h
          have hP : va_P g.1 az_cl (az_w6 g ax an au V Y) _ := hP
          have hD : va_D A (az_w6 g ax an au V Y) := hD
          rw [← Option.some.inj h]
          exact az_outT n43 hex hlocks hce hcv hcl hK hP hD hS (Nat.le_of_ble_eq_true rfl) (Nat.le_of_ble_eq_true rfl)
        replace h := az_pos c43 h
        have hP : va_P g.1 az_cl (az_w6 g ax an au V Y) _ := hP
        have hD : va_D A (az_w6 g ax an au V Y) := hD
        rw [← Option.some.inj h]
        exact az_vretT hx hb hr hlocks hK hP hD hS dX6_checkAddress_46 (Nat.le_of_ble_eq_true rfl) (Nat.le_of_ble_eq_true rfl)
      · replace h := az_neg c35 h
        refine lv_iconst (v := (1 : Int32)) hx hb dX6_checkAddress_38 (by decide) ?_
        refine lv_goto (tgt := 43) hx hb dX6_checkAddress_39 (by decide) ?_
        obtain ⟨o43, hc43, h⟩ := az_bnd h
        refine az_callST (As := [.int (1 : Int32)]) (rest := []) ⟨hx, hb, hml, hown, hts⟩ hl.1 (kX6_checkIndex l hst g sa (1 : Int32) o43 hc43) (va_cwS 1 hts gX6_checkAddress_X6_checkIndex rfl rfl rfl (by decide +kernel) ⟨(Nat.le_of_ble_eq_true rfl), (Nat.le_of_ble_eq_true rfl)⟩) rfl hK hcx hP hS hA (Nat.le_of_ble_eq_true rfl) dX6_checkAddress_43 ⟨(Nat.le_of_ble_eq_true rfl), (Nat.le_of_ble_eq_true rfl)⟩ rfl (fun n43 ce q9 H locs hP hS hce hcv hcl => ?_) (fun c43 H locs hP hS => ?_)
        · replace h := az_neg n43 h
          have hP : va_P g.1 az_cl (az_w6 g ax an au V Y) _ := hP
          have hD : va_D A (az_w6 g ax an au V Y) := hD
          rw [← Option.some.inj h]
          exact az_outT n43 hex hlocks hce hcv hcl hK hP hD hS (Nat.le_of_ble_eq_true rfl) (Nat.le_of_ble_eq_true rfl)
        replace h := az_pos c43 h
        have hP : va_P g.1 az_cl (az_w6 g ax an au V Y) _ := hP
        have hD : va_D A (az_w6 g ax an au V Y) := hD
        rw [← Option.some.inj h]
        exact az_vretT hx hb hr hlocks hK hP hD hS dX6_checkAddress_46 (Nat.le_of_ble_eq_true rfl) (Nat.le_of_ble_eq_true rfl)

def FX6_checkHeld (V : az_St) (x1 : Int32) (x2 : Int32) : Option (Nat) := (FX6_checkReader x1).bind (fun o1 => if o1 = 0 then ((FX6_checkAddress V x2).bind (fun o6 => if o6 = 0 then ((FX0_isHeldBy V x2 x1).bind (fun o18 => (FX6_checkElement o18).bind (fun o21 => if o21 = 0 then (some (0)) else some o21))) else some o6)) else some o1)
theorem inX6_checkHeld_RX5 : ∀ w ∈ wsX50, w ∈ wsX6_checkHeld := az_inr [36, 37, 38, 39, 40, 41, 42, 43, 44, 45, 46] (by decide +kernel)
theorem inX6_checkHeld_RX6 : ∀ w ∈ wsX60, w ∈ wsX6_checkHeld := az_inr [33, 34, 35] (by decide +kernel)
set_option maxHeartbeats 4000000 in
set_option maxRecDepth 100000 in
theorem kX6_checkHeld (l : Launch) (hst : l.stackTraces = false) (g : az_G) (sa : Nat → Nat) (ax : Nat → Nat) (an : Nat → Nat) (au : Nat → Nat) (Y : va_W) (V : az_St) (x1 : Int32) (x2 : Int32) (o : Nat) (h : FX6_checkHeld V x1 x2 = some o) : az_TV l yX6_checkHeld wsX6_checkHeld ({ frames := 8, cells := 3, slots := 18, locals := 141 } : Room) [.ref (ax 0), .int x1, .int x2] g sa (az_w6 g ax an au V Y) o (az_w6 g ax an au V Y) 3 := by
  refine az_bodyT (cc := cX6_checkHeld) (maxL := 3) (ret := none) (mc := 3) (ms := 18) (Qc := fun A => az_QTV g (az_w6 g ax an au V Y) o A) (XC := fun A => az_XT g (az_w6 g ax an au V Y) o A) (by decide +kernel) rfl (Nat.le_of_ble_eq_true rfl) ?_
  intro p e s m args below meth c A hx hb hr hts hown hml hlocks hex hcx hA hK hP hD hS ls hl
  have hl : lv_has ls 3 [(0, .ref (ax 0)), (1, .int x1), (2, .int x2)] := hl
  unfold FX6_checkHeld at h
  refine lv_iload_n hx hb dX6_checkHeld_0 rfl (lv_at hl 1 rfl) ?_
  obtain ⟨o1, hc1, h⟩ := az_bnd h
  refine az_callST (As := [.int x1]) (rest := []) ⟨hx, hb, hml, hown, hts⟩ hl.1 (kX6_checkReader l hst g sa x1 o1 hc1) (va_cwS 1 hts gX6_checkHeld_X6_checkReader rfl rfl rfl (by decide +kernel) ⟨(Nat.le_of_ble_eq_true rfl), (Nat.le_of_ble_eq_true rfl)⟩) rfl hK hcx hP hS hA (Nat.le_of_ble_eq_true rfl) dX6_checkHeld_1 ⟨(Nat.le_of_ble_eq_true rfl), (Nat.le_of_ble_eq_true rfl)⟩ rfl (fun n1 ce q9 H locs hP hS hce hcv hcl => ?_) (fun c1 H locs hP hS => ?_)
  · replace h := az_neg n1 h
    have hP : va_P g.1 az_cl (az_w6 g ax an au V Y) _ := hP
    have hD : va_D A (az_w6 g ax an au V Y) := hD
    rw [← Option.some.inj h]
    exact az_outT n1 hex hlocks hce hcv hcl hK hP hD hS (Nat.le_of_ble_eq_true rfl) (Nat.le_of_ble_eq_true rfl)
  replace h := az_pos c1 h
  refine lv_aload_n hx hb dX6_checkHeld_4 rfl (lv_at hl 0 rfl) ?_
  refine lv_iload_n hx hb dX6_checkHeld_5 rfl (lv_at hl 2 rfl) ?_
  obtain ⟨o6, hc6, h⟩ := az_bnd h
  refine az_callVT (As := [.int x2]) (rest := []) ⟨hx, hb, hml, hown, hts⟩ hl.1 (kX6_checkAddress l hst g sa ax an au Y V x2 o6 hc6) (cwV 1 hts gX6_checkHeld_X6_checkAddress rfl rfl rfl (by decide +kernel) ⟨(Nat.le_of_ble_eq_true rfl), (Nat.le_of_ble_eq_true rfl)⟩) rfl hK hcx hP hD hS hA 0 rfl rfl rfl (Nat.le_of_ble_eq_true rfl) dX6_checkHeld_6 ⟨(Nat.le_of_ble_eq_true rfl), (Nat.le_of_ble_eq_true rfl)⟩ rfl (fun n6 ce q9 H locs hP hS hce hcv hcl => ?_) (fun c6 H locs hP hS => ?_)
  · replace h := az_neg n6 h
    have hP : va_P g.1 az_cl (az_w6 g ax an au V Y) _ := hP
    have hD : va_D A (az_w6 g ax an au V Y) := hD
    rw [← Option.some.inj h]
    exact az_outT n6 hex hlocks hce hcv hcl hK hP hD hS (Nat.le_of_ble_eq_true rfl) (Nat.le_of_ble_eq_true rfl)
  replace h := az_pos c6 h
  refine lv_aload_n hx hb dX6_checkHeld_9 rfl (lv_at hl 0 rfl) ?_
  refine va_get (D := g.1) (ci := 6) (v := .ref (an 0)) (C := RX6) (T := TX6) (N := 3) hx hb hts inX6_checkHeld_RX6 hown hK hP 0 rfl rfl 0 (Nat.le_of_ble_eq_true rfl) (hts _ (List.mem_of_getElem? (i := 1) rfl)) (fun _ h9 => h9) rfl dX6_checkHeld_10 ?_
  refine va_get (D := g.1) (ci := 5) (v := .ref (an 6)) (C := RX5) (T := TX5) (N := 11) hx hb hts inX6_checkHeld_RX5 hown hK hP 1 rfl rfl 1 (Nat.le_of_ble_eq_true rfl) (hts _ (List.mem_of_getElem? (i := 2) rfl)) (fun _ h9 => h9) rfl dX6_checkHeld_13 ?_
  refine lv_iload_n hx hb dX6_checkHeld_16 rfl (lv_at hl 2 rfl) ?_
  refine lv_iload_n hx hb dX6_checkHeld_17 rfl (lv_at hl 1 rfl) ?_
  obtain ⟨o18, hc18, h⟩ := az_bnd h
  refine az_callPi (w2 := az_w6 g ax an au V Y) (As := [.int x2, .int x1]) (rest := []) ⟨hx, hb, hml, hown, hts⟩ hl.1 (kX0_isHeldBy l g an V x2 x1 o18 hc18) (cwV 2 hts gX6_checkHeld_X0_isHeldBy rfl rfl rfl (by decide +kernel) ⟨(Nat.le_of_ble_eq_true rfl), (Nat.le_of_ble_eq_true rfl)⟩) rfl hK hP hD hS hA (az_pm (az_x ax an au :: (az_cV g an V).take 6) (az_cB g an V) ((az_cV g an V).drop 13 ++ Y)) (az_pm (az_x ax an au :: (az_cV g an V).take 6) (az_cB g an V) ((az_cV g an V).drop 13 ++ Y)).symm 0 rfl rfl rfl (Nat.le_of_ble_eq_true rfl) dX6_checkHeld_18 ⟨(Nat.le_of_ble_eq_true rfl), (Nat.le_of_ble_eq_true rfl)⟩ rfl (fun H locs hP hD hS => ?_)
  have hP : va_P g.1 az_cl (az_w6 g ax an au V Y) _ := hP
  have hD : va_D A (az_w6 g ax an au V Y) := hD
  obtain ⟨o21, hc21, h⟩ := az_bnd h
  refine az_callST (As := [.int o18]) (rest := []) ⟨hx, hb, hml, hown, hts⟩ hl.1 (kX6_checkElement l hst g sa o18 o21 hc21) (va_cwS 1 hts gX6_checkHeld_X6_checkElement rfl rfl rfl (by decide +kernel) ⟨(Nat.le_of_ble_eq_true rfl), (Nat.le_of_ble_eq_true rfl)⟩) rfl hK hcx hP hS hA (Nat.le_of_ble_eq_true rfl) dX6_checkHeld_21 ⟨(Nat.le_of_ble_eq_true rfl), (Nat.le_of_ble_eq_true rfl)⟩ rfl (fun n21 ce q9 H locs hP hS hce hcv hcl => ?_) (fun c21 H locs hP hS => ?_)
  · replace h := az_neg n21 h
    have hP : va_P g.1 az_cl (az_w6 g ax an au V Y) _ := hP
    have hD : va_D A (az_w6 g ax an au V Y) := hD
    rw [← Option.some.inj h]
    exact az_outT n21 hex hlocks hce hcv hcl hK hP hD hS (Nat.le_of_ble_eq_true rfl) (Nat.le_of_ble_eq_true rfl)
  replace h := az_pos c21 h
  have hP : va_P g.1 az_cl (az_w6 g ax an au V Y) _ := hP
  have hD : va_D A (az_w6 g ax an au V Y) := hD
  rw [← Option.some.inj h]
  exact az_vretT hx hb hr hlocks hK hP hD hS dX6_checkHeld_24 (Nat.le_of_ble_eq_true rfl) (Nat.le_of_ble_eq_true rfl)
