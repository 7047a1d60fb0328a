/-! 45.calls2: printed by wip/whole/gen.py out of the printed instructions -/
def FX6_release (V : az_St) (T : az_St) (S : Nat → az_St) (hs : Nat → Int32) (x1 : Int32) (x2 : Int32) : Option (Nat × Int32 × (Nat → az_St) × (Nat → Int32) × (Nat → Int32)) := (FX6_checkHeld V x1 x2).bind (fun o3 => if o3 = 0 then ((FX1_save S hs V).bind (fun o14 => (FX0_removeHolder V x2 x1).bind (fun o26 => (FX0_heldBy (va_up V 10 o26) x1).bind (fun o37 => some (0, o37, o14.1, o26, o14.2))))) else some (o3, (0 : Int32), S, (V 10), hs))
theorem inX6_release_RX5 : ∀ w ∈ wsX50, w ∈ wsX6_release := az_inr [120, 121, 122, 123, 124, 125, 126, 127, 128, 129, 130] (by decide +kernel)
theorem inX6_release_RX6 : ∀ w ∈ wsX60, w ∈ wsX6_release := az_inr [117, 118, 119] (by decide +kernel)
set_option maxHeartbeats 4000000 in
set_option maxRecDepth 100000 in
theorem kX6_release (l : Launch) (hst : l.stackTraces = false) (g : az_G) (sa : Nat → Nat) (ax : Nat → Nat) (an : Nat → Nat) (au : Nat → Nat) (aw : Nat → Nat → Nat) (V : az_St) (T : az_St) (S : Nat → az_St) (hs : Nat → Int32) (x1 : Int32) (x2 : Int32) (o : Nat × Int32 × (Nat → az_St) × (Nat → Int32) × (Nat → Int32)) (h : FX6_release V T S hs x1 x2 = some o) : az_TI l yX6_release wsX6_release ({ frames := 9, cells := 3, slots := 18, locals := 164 } : Room) [.ref (ax 0), .int x1, .int x2] g sa (az_w6 g ax an au V (az_cV g au T ++ az_cH g ax aw S hs)) o.1 o.2.1 (az_w6 g ax an au (va_up V 10 o.2.2.2.1) (az_cV g au T ++ az_cH g ax aw o.2.2.1 o.2.2.2.2)) 3 := by
  refine az_bodyT (cc := cX6_release) (maxL := 3) (ret := (some .int)) (mc := 3) (ms := 18) (Qc := fun A => az_QTI g (az_w6 g ax an au (va_up V 10 o.2.2.2.1) (az_cV g au T ++ az_cH g ax aw o.2.2.1 o.2.2.2.2)) o.1 o.2.1 A) (XC := fun A => az_XT g (az_w6 g ax an au (va_up V 10 o.2.2.2.1) (az_cV g au T ++ az_cH g ax aw o.2.2.1 o.2.2.2.2)) o.1 A) (by decide +kernel) rfl (Nat.le_of_ble_eq_true rfl) ?_
  intro p e s m args below meth c A hx hb hr hts hown hml hlocks hex hcx hA hK hP hD hS ls hl
  have hl : lv_has ls 3 [(0, .ref (ax 0)), (1, .int x1), (2, .int x2)] := hl
  unfold FX6_release at h
  refine lv_aload_n hx hb dX6_release_0 rfl (lv_at hl 0 rfl) ?_
  refine lv_iload_n hx hb dX6_release_1 rfl (lv_at hl 1 rfl) ?_
  refine lv_iload_n hx hb dX6_release_2 rfl (lv_at hl 2 rfl) ?_
  obtain ⟨o3, hc3, h⟩ := az_bnd h
  refine az_callVT (As := [.int x1, .int x2]) (rest := []) ⟨hx, hb, hml, hown, hts⟩ hl.1 (kX6_checkHeld l hst g sa ax an au (az_cV g au T ++ az_cH g ax aw S hs) V x1 x2 o3 hc3) (cwV 2 hts gX6_release_X6_checkHeld rfl rfl rfl (by decide +kernel) ⟨(Nat.le_of_ble_eq_true rfl), (Nat.le_of_ble_eq_true rfl)⟩) rfl hK hcx hP hD hS hA 0 rfl rfl rfl (Nat.le_of_ble_eq_true rfl) dX6_release_3 ⟨(Nat.le_of_ble_eq_true rfl), (Nat.le_of_ble_eq_true rfl)⟩ rfl (fun n3 ce q9 H locs hP hS hce hcv hcl => ?_) (fun c3 H locs hP hS => ?_)
  · replace h := az_neg n3 h
    have hP : va_P g.1 az_cl (az_w6 g ax an au (va_up V 10 (V 10)) (az_cV g au T ++ az_cH g ax aw S hs)) _ := hP
    have hD : va_D A (az_w6 g ax an au (va_up V 10 (V 10)) (az_cV g au T ++ az_cH g ax aw S hs)) := hD
    rw [← Option.some.inj h]
    exact az_outT n3 hex hlocks hce hcv hcl hK hP hD hS (Nat.le_of_ble_eq_true rfl) (Nat.le_of_ble_eq_true rfl)
  replace h := az_pos c3 h
  refine lv_aload_n hx hb dX6_release_6 rfl (lv_at hl 0 rfl) ?_
  refine va_get (D := g.1) (ci := 6) (v := .ref (ax 1)) (C := RX6) (T := TX6) (N := 3) hx hb hts inX6_release_RX6 hown hK hP 0 rfl rfl 2 (Nat.le_of_ble_eq_true rfl) (hts _ (List.mem_of_getElem? (i := 1) rfl)) (fun _ h9 => h9) rfl dX6_release_7 ?_
  refine lv_aload_n hx hb dX6_release_10 rfl (lv_at hl 0 rfl) ?_
  refine va_get (D := g.1) (ci := 6) (v := .ref (an 0)) (C := RX6) (T := TX6) (N := 3) hx hb hts inX6_release_RX6 hown hK hP 0 rfl rfl 0 (Nat.le_of_ble_eq_true rfl) (hts _ (List.mem_of_getElem? (i := 2) rfl)) (fun _ h9 => h9) rfl dX6_release_11 ?_
  obtain ⟨o14, hc14, h⟩ := az_bnd h
  refine az_callPv (w2 := az_w6 g ax an au V (az_cV g au T ++ az_cH g ax aw o14.1 o14.2)) (As := [.ref (an 0)]) (rest := []) ⟨hx, hb, hml, hown, hts⟩ hl.1 (kX1_save l g ax an aw S hs V o14 hc14) (cwV 1 hts gX6_release_X1_save rfl rfl rfl (by decide +kernel) ⟨(Nat.le_of_ble_eq_true rfl), (Nat.le_of_ble_eq_true rfl)⟩) rfl hK hP hD hS hA (az_pH (az_x ax an au) (az_cV g an V) (az_cV g au T) (az_cH g ax aw S hs)) (az_pH (az_x ax an au) (az_cV g an V) (az_cV g au T) (az_cH g ax aw o14.1 o14.2)).symm 0 rfl rfl rfl (Nat.le_of_ble_eq_true rfl) dX6_release_14 ⟨(Nat.le_of_ble_eq_true rfl), (Nat.le_of_ble_eq_true rfl)⟩ rfl (fun H locs hP hD hS => ?_)
  have hP : va_P g.1 az_cl (az_w6 g ax an au V (az_cV g au T ++ az_cH g ax aw o14.1 o14.2)) _ := hP
  have hD : va_D A (az_w6 g ax an au V (az_cV g au T ++ az_cH g ax aw o14.1 o14.2)) := hD
  refine lv_aload_n hx hb dX6_release_17 rfl (lv_at hl 0 rfl) ?_
  refine va_get (D := g.1) (ci := 6) (v := .ref (an 0)) (C := RX6) (T := TX6) (N := 3) hx hb hts inX6_release_RX6 hown hK hP 0 rfl rfl 0 (Nat.le_of_ble_eq_true rfl) (hts _ (List.mem_of_getElem? (i := 2) rfl)) (fun _ h9 => h9) rfl dX6_release_18 ?_
  refine va_get (D := g.1) (ci := 5) (v := .ref (an 6)) (C := RX5) (T := TX5) (N := 11) hx hb hts inX6_release_RX5 hown hK hP 1 rfl rfl 1 (Nat.le_of_ble_eq_true rfl) (hts _ (List.mem_of_getElem? (i := 3) rfl)) (fun _ h9 => h9) rfl dX6_release_21 ?_
  refine lv_iload_n hx hb dX6_release_24 rfl (lv_at hl 2 rfl) ?_
  refine lv_iload_n hx hb dX6_release_25 rfl (lv_at hl 1 rfl) ?_
  obtain ⟨o26, hc26, h⟩ := az_bnd h
  refine az_callPv (w2 := az_w6 g ax an au (va_up V 10 o26) (az_cV g au T ++ az_cH g ax aw o14.1 o14.2)) (As := [.int x2, .int x1]) (rest := []) ⟨hx, hb, hml, hown, hts⟩ hl.1 (kX0_removeHolder l g an V x2 x1 o26 hc26) (cwV 2 hts gX6_release_X0_removeHolder rfl rfl rfl (by decide +kernel) ⟨(Nat.le_of_ble_eq_true rfl), (Nat.le_of_ble_eq_true rfl)⟩) rfl hK hP hD hS hA (az_pm (az_x ax an au :: (az_cV g an V).take 6) (az_cB g an V) ((az_cV g an V).drop 13 ++ (az_cV g au T ++ az_cH g ax aw o14.1 o14.2))) (az_pm (az_x ax an au :: (az_cV g an V).take 6) (az_cB g an (va_up V 10 o26)) ((az_cV g an V).drop 13 ++ (az_cV g au T ++ az_cH g ax aw o14.1 o14.2))).symm 0 rfl rfl rfl (Nat.le_of_ble_eq_true rfl) dX6_release_26 ⟨(Nat.le_of_ble_eq_true rfl), (Nat.le_of_ble_eq_true rfl)⟩ rfl (fun H locs hP hD hS => ?_)
  have hP : va_P g.1 az_cl (az_w6 g ax an au (va_up V 10 o26) (az_cV g au T ++ az_cH g ax aw o14.1 o14.2)) _ := hP
  have hD : va_D A (az_w6 g ax an au (va_up V 10 o26) (az_cV g au T ++ az_cH g ax aw o14.1 o14.2)) := hD
  refine lv_aload_n hx hb dX6_release_29 rfl (lv_at hl 0 rfl) ?_
  refine va_get (D := g.1) (ci := 6) (v := .ref (an 0)) (C := RX6) (T := TX6) (N := 3) hx hb hts inX6_release_RX6 hown hK hP 0 rfl rfl 0 (Nat.le_of_ble_eq_true rfl) (hts _ (List.mem_of_getElem? (i := 2) rfl)) (fun _ h9 => h9) rfl dX6_release_30 ?_
  refine va_get (D := g.1) (ci := 5) (v := .ref (an 6)) (C := RX5) (T := TX5) (N := 11) hx hb hts inX6_release_RX5 hown hK hP 1 rfl rfl 1 (Nat.le_of_ble_eq_true rfl) (hts _ (List.mem_of_getElem? (i := 3) rfl)) (fun _ h9 => h9) rfl dX6_release_33 ?_
  refine lv_iload_n hx hb dX6_release_36 rfl (lv_at hl 1 rfl) ?_
  obtain ⟨o37, hc37, h⟩ := az_bnd h
  refine az_callPi (w2 := az_w6 g ax an au (va_up V 10 o26) (az_cV g au T ++ az_cH g ax aw o14.1 o14.2)) (As := [.int x1]) (rest := []) ⟨hx, hb, hml, hown, hts⟩ hl.1 (kX0_heldBy l g an (va_up V 10 o26) x1 o37 hc37) (cwV 1 hts gX6_release_X0_heldBy rfl rfl rfl (by decide +kernel) ⟨(Nat.le_of_ble_eq_true rfl), (Nat.le_of_ble_eq_true rfl)⟩) rfl hK hP hD hS hA (az_pm (az_x ax an au :: (az_cV g an (va_up V 10 o26)).take 6) (az_cB g an (va_up V 10 o26)) ((az_cV g an (va_up V 10 o26)).drop 13 ++ (az_cV g au T ++ az_cH g ax aw o14.1 o14.2))) (az_pm (az_x ax an au :: (az_cV g an (va_up V 10 o26)).take 6) (az_cB g an (va_up V 10 o26)) ((az_cV g an (va_up V 10 o26)).drop 13 ++ (az_cV g au T ++ az_cH g ax aw o14.1 o14.2))).symm 0 rfl rfl rfl (Nat.le_of_ble_eq_true rfl) dX6_release_37 ⟨(Nat.le_of_ble_eq_true rfl), (Nat.le_of_ble_eq_true rfl)⟩ rfl (fun H locs hP hD hS => ?_)
  have hP : va_P g.1 az_cl (az_w6 g ax an au (va_up V 10 o26) (az_cV g au T ++ az_cH g ax aw o14.1 o14.2)) _ := hP
  have hD : va_D A (az_w6 g ax an au (va_up V 10 o26) (az_cV g au T ++ az_cH g ax aw o14.1 o14.2)) := hD
  have hP : va_P g.1 az_cl (az_w6 g ax an au (va_up V 10 o26) (az_cV g au T ++ az_cH g ax aw o14.1 o14.2)) _ := hP
  have hD : va_D A (az_w6 g ax an au (va_up V 10 o26) (az_cV g au T ++ az_cH g ax aw o14.1 o14.2)) := hD
  rw [← Option.some.inj h]
  exact az_iretT hx hb hr hlocks hK hP hD hS dX6_release_40 (Nat.le_of_ble_eq_true rfl) (Nat.le_of_ble_eq_true rfl)

def FX6_read (V : az_St) (x1 : Int32) (x2 : Int32) : Option (Nat × Int32) := (FX6_checkHeld V x1 x2).bind (fun o3 => if o3 = 0 then (if az_in x2 160 = true then some (0, (V 7) x2.toNatClampNeg) else none) else some (o3, (0 : Int32)))
theorem inX6_read_RX0 : ∀ w ∈ wsX00, w ∈ wsX6_read := az_inr [52, 53, 54, 55, 56, 57] (by decide +kernel)
theorem inX6_read_RX5 : ∀ w ∈ wsX50, w ∈ wsX6_read := az_inr [41, 42, 43, 44, 45, 46, 47, 48, 49, 50, 51] (by decide +kernel)
theorem inX6_read_RX6 : ∀ w ∈ wsX60, w ∈ wsX6_read := az_inr [38, 39, 40] (by decide +kernel)
set_option maxHeartbeats 4000000 in
set_option maxRecDepth 100000 in
theorem kX6_read (l : Launch) (hst : l.stackTraces = false) (g : az_G) (sa : Nat → Nat) (ax : Nat → Nat) (an : Nat → Nat) (au : Nat → Nat) (Y : va_W) (V : az_St) (x1 : Int32) (x2 : Int32) (o : Nat × Int32) (h : FX6_read V x1 x2 = some o) : az_TI l yX6_read wsX6_read ({ frames := 9, cells := 3, slots := 18, locals := 163 } : Room) [.ref (ax 0), .int x1, .int x2] g sa (az_w6 g ax an au V Y) o.1 o.2 (az_w6 g ax an au V Y) 3 := by
  refine az_bodyT (cc := cX6_read) (maxL := 3) (ret := (some .int)) (mc := 3) (ms := 18) (Qc := fun A => az_QTI g (az_w6 g ax an au V Y) o.1 o.2 A) (XC := fun A => az_XT g (az_w6 g ax an au V Y) o.1 A) (by decide +kernel) rfl (Nat.le_of_ble_eq_true rfl) ?_
  intro p e s m args below meth c A hx hb hr hts hown hml hlocks hex hcx hA hK hP hD hS ls hl
  have hl : lv_has ls 3 [(0, .ref (ax 0)), (1, .int x1), (2, .int x2)] := hl
  unfold FX6_read at h
  refine lv_aload_n hx hb dX6_read_0 rfl (lv_at hl 0 rfl) ?_
  refine lv_iload_n hx hb dX6_read_1 rfl (lv_at hl 1 rfl) ?_
  refine lv_iload_n hx hb dX6_read_2 rfl (lv_at hl 2 rfl) ?_
  obtain ⟨o3, hc3, h⟩ := az_bnd h
  refine az_callVT (As := [.int x1, .int x2]) (rest := []) ⟨hx, hb, hml, hown, hts⟩ hl.1 (kX6_checkHeld l hst g sa ax an au Y V x1 x2 o3 hc3) (cwV 2 hts gX6_read_X6_checkHeld rfl rfl rfl (by decide +kernel) ⟨(Nat.le_of_ble_eq_true rfl), (Nat.le_of_ble_eq_true rfl)⟩) rfl hK hcx hP hD hS hA 0 rfl rfl rfl (Nat.le_of_ble_eq_true rfl) dX6_read_3 ⟨(Nat.le_of_ble_eq_true rfl), (Nat.le_of_ble_eq_true rfl)⟩ rfl (fun n3 ce q9 H locs hP hS hce hcv hcl => ?_) (fun c3 H locs hP hS => ?_)
  · replace h := az_neg n3 h
    have hP : va_P g.1 az_cl (az_w6 g ax an au V Y) _ := hP
    have hD : va_D A (az_w6 g ax an au V Y) := hD
    rw [← Option.some.inj h]
    exact az_outT n3 hex hlocks hce hcv hcl hK hP hD hS (Nat.le_of_ble_eq_true rfl) (Nat.le_of_ble_eq_true rfl)
  replace h := az_pos c3 h
  refine lv_aload_n hx hb dX6_read_6 rfl (lv_at hl 0 rfl) ?_
  refine va_get (D := g.1) (ci := 6) (v := .ref (an 0)) (C := RX6) (T := TX6) (N := 3) hx hb hts inX6_read_RX6 hown hK hP 0 rfl rfl 0 (Nat.le_of_ble_eq_true rfl) (hts _ (List.mem_of_getElem? (i := 1) rfl)) (fun _ h9 => h9) rfl dX6_read_7 ?_
  refine va_get (D := g.1) (ci := 5) (v := .ref (an 6)) (C := RX5) (T := TX5) (N := 11) hx hb hts inX6_read_RX5 hown hK hP 1 rfl rfl 1 (Nat.le_of_ble_eq_true rfl) (hts _ (List.mem_of_getElem? (i := 2) rfl)) (fun _ h9 => h9) rfl dX6_read_10 ?_
  refine va_get (D := g.1) (ci := 0) (v := .ref (an 9)) (C := RX0) (T := TX0) (N := 6) hx hb hts inX6_read_RX0 hown hK hP 7 rfl rfl 2 (Nat.le_of_ble_eq_true rfl) (hts _ (List.mem_of_getElem? (i := 3) rfl)) (fun _ h9 => h9) rfl dX6_read_13 ?_
  refine lv_iload_n hx hb dX6_read_16 rfl (lv_at hl 2 rfl) ?_
  obtain ⟨i17, h⟩ := az_ite h
  refine va_iald (D := g.1) (f := (V 7)) hx hb hK hP 10 0 rfl rfl (az_vin i17) dX6_read_17 ?_
  have hP : va_P g.1 az_cl (az_w6 g ax an au V Y) _ := hP
  have hD : va_D A (az_w6 g ax an au V Y) := hD
  rw [← Option.some.inj h]
  exact az_iretT hx hb hr hlocks hK hP hD hS dX6_read_18 (Nat.le_of_ble_eq_true rfl) (Nat.le_of_ble_eq_true rfl)

def FX6_reader (V : az_St) (x1 : Int32) (x2 : Int32) : Option (Nat × Int32) := (FX6_checkReader x1).bind (fun o1 => if o1 = 0 then (if x2 = (0 : Int32) then (if az_in x1 6 = true then some (0, (V 11) x1.toNatClampNeg) else none) else (if x2 = (1 : Int32) then (if az_in x1 6 = true then some (0, (V 12) x1.toNatClampNeg) else none) else (if x2 = (2 : Int32) then ((FX0_heldBy V x1).bind (fun o74 => some (0, o74))) else (if x2 = (3 : Int32) then ((FX5_stallOf V x1).bind (fun o83 => some (0, o83))) else (if x2 = (4 : Int32) then ((FX0_waitingHeldBy V x1).bind (fun o95 => some (0, o95))) else (some (2, (0 : Int32)))))))) else some (o1, (0 : Int32)))
theorem inX6_reader_RX2 : ∀ w ∈ wsX20, w ∈ wsX6_reader := az_inr [69, 70] (by decide +kernel)
theorem inX6_reader_RX5 : ∀ w ∈ wsX50, w ∈ wsX6_reader := az_inr [58, 59, 60, 61, 62, 63, 64, 65, 66, 67, 68] (by decide +kernel)
theorem inX6_reader_RX6 : ∀ w ∈ wsX60, w ∈ wsX6_reader := az_inr [55, 56, 57] (by decide +kernel)
theorem thno_S_174 : ∀ w ∈ (vx_atS RX6 174 "java/lang/IllegalArgumentException" ["java/lang/RuntimeException", "java/lang/Exception"]).filter (fun w => !goodWord w), w ∈ Cond.castable "java/lang/IllegalArgumentException" "java/lang/IllegalArgumentException" :: az_dl := by decide +kernel
theorem thgd_S_170_174 : ∀ w ∈ Cond.classLink RX6 170 "java/lang/IllegalArgumentException" :: Cond.initialized "java/lang/IllegalArgumentException" :: vx_atS RX6 174 "java/lang/IllegalArgumentException" ["java/lang/RuntimeException", "java/lang/Exception"], vx_ot w = true := by decide +kernel
set_option maxHeartbeats 4000000 in
set_option maxRecDepth 100000 in
theorem kX6_reader (l : Launch) (hst : l.stackTraces = false) (g : az_G) (sa : Nat → Nat) (ax : Nat → Nat) (an : Nat → Nat) (au : Nat → Nat) (Y : va_W) (V : az_St) (x1 : Int32) (x2 : Int32) (o : Nat × Int32) (h : FX6_reader V x1 x2 = some o) : az_TI l yX6_reader wsX6_reader ({ frames := 8, cells := 2, slots := 12, locals := 140 } : Room) [.ref (ax 0), .int x1, .int x2] g sa (az_w6 g ax an au V Y) o.1 o.2 (az_w6 g ax an au V Y) 2 := by
  refine az_bodyT (cc := cX6_reader) (maxL := 3) (ret := (some .int)) (mc := 2) (ms := 12) (Qc := fun A => az_QTI g (az_w6 g ax an au V Y) o.1 o.2 A) (XC := fun A => az_XT g (az_w6 g ax an au V Y) o.1 A) (by decide +kernel) rfl (Nat.le_of_ble_eq_true rfl) ?_
  intro p e s m args below meth c A hx hb hr hts hown hml hlocks hex hcx hA hK hP hD hS ls hl
  have hl : lv_has ls 3 [(0, .ref (ax 0)), (1, .int x1), (2, .int x2)] := hl
  unfold FX6_reader at h
  refine lv_iload_n hx hb dX6_reader_0 rfl (lv_at hl 1 rfl) ?_
  obtain ⟨o1, hc1, h⟩ := az_bnd h
  refine az_callST (As := [.int x1]) (rest := []) ⟨hx, hb, hml, hown, hts⟩ hl.1 (kX6_checkReader l hst g sa x1 o1 hc1) (va_cwS 1 hts gX6_reader_X6_checkReader rfl rfl rfl (by decide +kernel) ⟨(Nat.le_of_ble_eq_true rfl), (Nat.le_of_ble_eq_true rfl)⟩) rfl hK hcx hP hS hA (Nat.le_of_ble_eq_true rfl) dX6_reader_1 ⟨(Nat.le_of_ble_eq_true rfl), (Nat.le_of_ble_eq_true rfl)⟩ rfl (fun n1 ce q9 H locs hP hS hce hcv hcl => ?_) (fun c1 H locs hP hS => ?_)
  · replace h := az_neg n1 h
    have hP : va_P g.1 az_cl (az_w6 g ax an au V Y) _ := hP
    have hD : va_D A (az_w6 g ax an au V Y) := hD
    rw [← Option.some.inj h]
    exact az_outT n1 hex hlocks hce hcv hcl hK hP hD hS (Nat.le_of_ble_eq_true rfl) (Nat.le_of_ble_eq_true rfl)
  replace h := az_pos c1 h
  refine lv_iload_n hx hb dX6_reader_4 rfl (lv_at hl 2 rfl) ?_
  by_cases c5_0 : x2 = (0 : Int32)
  · replace h := az_pos c5_0 h
    refine lv_tableIn (tgt := 40) (off := 35) hx hb dX6_reader_5 (by rw [c5_0]; decide) (by rw [c5_0]; decide) (by rw [c5_0]; rfl) (by decide) ?_
    refine lv_aload_n hx hb dX6_reader_40 rfl (lv_at hl 0 rfl) ?_
    refine va_get (D := g.1) (ci := 6) (v := .ref (an 0)) (C := RX6) (T := TX6) (N := 3) hx hb hts inX6_reader_RX6 hown hK hP 0 rfl rfl 0 (Nat.le_of_ble_eq_true rfl) (hts _ (List.mem_of_getElem? (i := 3) rfl)) (fun _ h9 => h9) rfl dX6_reader_41 ?_
    refine va_get (D := g.1) (ci := 5) (v := .ref (an 13)) (C := RX5) (T := TX5) (N := 11) hx hb hts inX6_reader_RX5 hown hK hP 1 rfl rfl 2 (Nat.le_of_ble_eq_true rfl) (hts _ (List.mem_of_getElem? (i := 4) rfl)) (fun _ h9 => h9) rfl dX6_reader_44 ?_
    refine va_get (D := g.1) (ci := 2) (v := .ref (an 14)) (C := RX2) (T := TX2) (N := 2) hx hb hts inX6_reader_RX2 hown hK hP 14 rfl rfl 0 (Nat.le_of_ble_eq_true rfl) (hts _ (List.mem_of_getElem? (i := 5) rfl)) (fun _ h9 => h9) rfl dX6_reader_47 ?_
    refine lv_iload_n hx hb dX6_reader_50 rfl (lv_at hl 1 rfl) ?_
    obtain ⟨i51, h⟩ := az_ite h
    refine va_iald (D := g.1) (f := (V 11)) hx hb hK hP 15 0 rfl rfl (az_vin i51) dX6_reader_51 ?_
    have hP : va_P g.1 az_cl (az_w6 g ax an au V Y) _ := hP
    have hD : va_D A (az_w6 g ax an au V Y) := hD
    rw [← Option.some.inj h]
    exact az_iretT hx hb hr hlocks hK hP hD hS dX6_reader_52 (Nat.le_of_ble_eq_true rfl) (Nat.le_of_ble_eq_true rfl)
  · replace h := az_neg c5_0 h
    by_cases c5_1 : x2 = (1 : Int32)
    · replace h := az_pos c5_1 h
      refine lv_tableIn (tgt := 53) (off := 48) hx hb dX6_reader_5 (by rw [c5_1]; decide) (by rw [c5_1]; decide) (by rw [c5_1]; rfl) (by decide) ?_
      refine lv_aload_n hx hb dX6_reader_53 rfl (lv_at hl 0 rfl) ?_
      refine va_get (D := g.1) (ci := 6) (v := .ref (an 0)) (C := RX6) (T := TX6) (N := 3) hx hb hts inX6_reader_RX6 hown hK hP 0 rfl rfl 0 (Nat.le_of_ble_eq_true rfl) (hts _ (List.mem_of_getElem? (i := 3) rfl)) (fun _ h9 => h9) rfl dX6_reader_54 ?_
      refine va_get (D := g.1) (ci := 5) (v := .ref (an 13)) (C := RX5) (T := TX5) (N := 11) hx hb hts inX6_reader_RX5 hown hK hP 1 rfl rfl 2 (Nat.le_of_ble_eq_true rfl) (hts _ (List.mem_of_getElem? (i := 4) rfl)) (fun _ h9 => h9) rfl dX6_reader_57 ?_
      refine va_get (D := g.1) (ci := 2) (v := .ref (an 15)) (C := RX2) (T := TX2) (N := 2) hx hb hts inX6_reader_RX2 hown hK hP 14 rfl rfl 1 (Nat.le_of_ble_eq_true rfl) (hts _ (List.mem_of_getElem? (i := 6) rfl)) (fun _ h9 => h9) rfl dX6_reader_60 ?_
      refine lv_iload_n hx hb dX6_reader_63 rfl (lv_at hl 1 rfl) ?_
      obtain ⟨i64, h⟩ := az_ite h
      refine va_iald (D := g.1) (f := (V 12)) hx hb hK hP 16 0 rfl rfl (az_vin i64) dX6_reader_64 ?_
      have hP : va_P g.1 az_cl (az_w6 g ax an au V Y) _ := hP
      have hD : va_D A (az_w6 g ax an au V Y) := hD
      rw [← Option.some.inj h]
      exact az_iretT hx hb hr hlocks hK hP hD hS dX6_reader_65 (Nat.le_of_ble_eq_true rfl) (Nat.le_of_ble_eq_true rfl)
    · replace h := az_neg c5_1 h
      by_cases c5_2 : x2 = (2 : Int32)
      · replace h := az_pos c5_2 h
        refine lv_tableIn (tgt := 66) (off := 61) hx hb dX6_reader_5 (by rw [c5_2]; decide) (by rw [c5_2]; decide) (by rw [c5_2]; rfl) (by decide) ?_
        refine lv_aload_n hx hb dX6_reader_66 rfl (lv_at hl 0 rfl) ?_
        refine va_get (D := g.1) (ci := 6) (v := .ref (an 0)) (C := RX6) (T := TX6) (N := 3) hx hb hts inX6_reader_RX6 hown hK hP 0 rfl rfl 0 (Nat.le_of_ble_eq_true rfl) (hts _ (List.mem_of_getElem? (i := 3) rfl)) (fun _ h9 => h9) rfl dX6_reader_67 ?_
        refine va_get (D := g.1) (ci := 5) (v := .ref (an 6)) (C := RX5) (T := TX5) (N := 11) hx hb hts inX6_reader_RX5 hown hK hP 1 rfl rfl 1 (Nat.le_of_ble_eq_true rfl) (hts _ (List.mem_of_getElem? (i := 7) rfl)) (fun _ h9 => h9) rfl dX6_reader_70 ?_
        refine lv_iload_n hx hb dX6_reader_73 rfl (lv_at hl 1 rfl) ?_
        obtain ⟨o74, hc74, h⟩ := az_bnd h
        refine az_callPi (w2 := az_w6 g ax an au V Y) (As := [.int x1]) (rest := []) ⟨hx, hb, hml, hown, hts⟩ hl.1 (kX0_heldBy l g an V x1 o74 hc74) (cwV 1 hts gX6_reader_X0_heldBy rfl rfl rfl (by decide +kernel) ⟨(Nat.le_of_ble_eq_true rfl), (Nat.le_of_ble_eq_true rfl)⟩) rfl hK hP hD hS hA (az_pm (az_x ax an au :: (az_cV g an V).take 6) (az_cB g an V) ((az_cV g an V).drop 13 ++ Y)) (az_pm (az_x ax an au :: (az_cV g an V).take 6) (az_cB g an V) ((az_cV g an V).drop 13 ++ Y)).symm 0 rfl rfl rfl (Nat.le_of_ble_eq_true rfl) dX6_reader_74 ⟨(Nat.le_of_ble_eq_true rfl), (Nat.le_of_ble_eq_true rfl)⟩ rfl (fun H locs hP hD hS => ?_)
        have hP : va_P g.1 az_cl (az_w6 g ax an au V Y) _ := hP
        have hD : va_D A (az_w6 g ax an au V Y) := hD
        have hP : va_P g.1 az_cl (az_w6 g ax an au V Y) _ := hP
        have hD : va_D A (az_w6 g ax an au V Y) := hD
        rw [← Option.some.inj h]
        exact az_iretT hx hb hr hlocks hK hP hD hS dX6_reader_77 (Nat.le_of_ble_eq_true rfl) (Nat.le_of_ble_eq_true rfl)
      · replace h := az_neg c5_2 h
        by_cases c5_3 : x2 = (3 : Int32)
        · replace h := az_pos c5_3 h
          refine lv_tableIn (tgt := 78) (off := 73) hx hb dX6_reader_5 (by rw [c5_3]; decide) (by rw [c5_3]; decide) (by rw [c5_3]; rfl) (by decide) ?_
          refine lv_aload_n hx hb dX6_reader_78 rfl (lv_at hl 0 rfl) ?_
          refine va_get (D := g.1) (ci := 6) (v := .ref (an 0)) (C := RX6) (T := TX6) (N := 3) hx hb hts inX6_reader_RX6 hown hK hP 0 rfl rfl 0 (Nat.le_of_ble_eq_true rfl) (hts _ (List.mem_of_getElem? (i := 3) rfl)) (fun _ h9 => h9) rfl dX6_reader_79 ?_
          refine lv_iload_n hx hb dX6_reader_82 rfl (lv_at hl 1 rfl) ?_
          obtain ⟨o83, hc83, h⟩ := az_bnd h
          refine az_callPi (w2 := az_w6 g ax an au V Y) (As := [.int x1]) (rest := []) ⟨hx, hb, hml, hown, hts⟩ hl.1 (kX5_stallOf l g an V x1 o83 hc83) (cwV 1 hts gX6_reader_X5_stallOf rfl rfl rfl (by decide +kernel) ⟨(Nat.le_of_ble_eq_true rfl), (Nat.le_of_ble_eq_true rfl)⟩) rfl hK hP hD hS hA (az_pm (az_x ax an au :: (az_cV g an V).take 0) (az_cV g an V) ((az_cV g an V).drop 20 ++ Y)) (az_pm (az_x ax an au :: (az_cV g an V).take 0) (az_cV g an V) ((az_cV g an V).drop 20 ++ Y)).symm 0 rfl rfl rfl (Nat.le_of_ble_eq_true rfl) dX6_reader_83 ⟨(Nat.le_of_ble_eq_true rfl), (Nat.le_of_ble_eq_true rfl)⟩ rfl (fun H locs hP hD hS => ?_)
          have hP : va_P g.1 az_cl (az_w6 g ax an au V Y) _ := hP
          have hD : va_D A (az_w6 g ax an au V Y) := hD
          have hP : va_P g.1 az_cl (az_w6 g ax an au V Y) _ := hP
          have hD : va_D A (az_w6 g ax an au V Y) := hD
          rw [← Option.some.inj h]
          exact az_iretT hx hb hr hlocks hK hP hD hS dX6_reader_86 (Nat.le_of_ble_eq_true rfl) (Nat.le_of_ble_eq_true rfl)
        · replace h := az_neg c5_3 h
          by_cases c5_4 : x2 = (4 : Int32)
          · replace h := az_pos c5_4 h
            refine lv_tableIn (tgt := 87) (off := 82) hx hb dX6_reader_5 (by rw [c5_4]; decide) (by rw [c5_4]; decide) (by rw [c5_4]; rfl) (by decide) ?_
            refine lv_aload_n hx hb dX6_reader_87 rfl (lv_at hl 0 rfl) ?_
            refine va_get (D := g.1) (ci := 6) (v := .ref (an 0)) (C := RX6) (T := TX6) (N := 3) hx hb hts inX6_reader_RX6 hown hK hP 0 rfl rfl 0 (Nat.le_of_ble_eq_true rfl) (hts _ (List.mem_of_getElem? (i := 3) rfl)) (fun _ h9 => h9) rfl dX6_reader_88 ?_
            refine va_get (D := g.1) (ci := 5) (v := .ref (an 6)) (C := RX5) (T := TX5) (N := 11) hx hb hts inX6_reader_RX5 hown hK hP 1 rfl rfl 1 (Nat.le_of_ble_eq_true rfl) (hts _ (List.mem_of_getElem? (i := 7) rfl)) (fun _ h9 => h9) rfl dX6_reader_91 ?_
            refine lv_iload_n hx hb dX6_reader_94 rfl (lv_at hl 1 rfl) ?_
            obtain ⟨o95, hc95, h⟩ := az_bnd h
            refine az_callPi (w2 := az_w6 g ax an au V Y) (As := [.int x1]) (rest := []) ⟨hx, hb, hml, hown, hts⟩ hl.1 (kX0_waitingHeldBy l g an V x1 o95 hc95) (cwV 1 hts gX6_reader_X0_waitingHeldBy rfl rfl rfl (by decide +kernel) ⟨(Nat.le_of_ble_eq_true rfl), (Nat.le_of_ble_eq_true rfl)⟩) rfl hK hP hD hS hA (az_pm (az_x ax an au :: (az_cV g an V).take 6) (az_cB g an V) ((az_cV g an V).drop 13 ++ Y)) (az_pm (az_x ax an au :: (az_cV g an V).take 6) (az_cB g an V) ((az_cV g an V).drop 13 ++ Y)).symm 0 rfl rfl rfl (Nat.le_of_ble_eq_true rfl) dX6_reader_95 ⟨(Nat.le_of_ble_eq_true rfl), (Nat.le_of_ble_eq_true rfl)⟩ rfl (fun H locs hP hD hS => ?_)
            have hP : va_P g.1 az_cl (az_w6 g ax an au V Y) _ := hP
            have hD : va_D A (az_w6 g ax an au V Y) := hD
            have hP : va_P g.1 az_cl (az_w6 g ax an au V Y) _ := hP
            have hD : va_D A (az_w6 g ax an au V Y) := hD
            rw [← Option.some.inj h]
            exact az_iretT hx hb hr hlocks hK hP hD hS dX6_reader_98 (Nat.le_of_ble_eq_true rfl) (Nat.le_of_ble_eq_true rfl)
          · replace h := az_neg c5_4 h
            refine lv_tableOut (tgt := 99) hx hb dX6_reader_5 (by have n0 := lv_neT (a := 0) c5_0 (by decide); have n1 := lv_neT (a := 1) c5_1 (by decide); have n2 := lv_neT (a := 2) c5_2 (by decide); have n3 := lv_neT (a := 3) c5_3 (by decide); have n4 := lv_neT (a := 4) c5_4 (by decide); omega) (by decide) ?_
            have hP : va_P g.1 az_cl (az_w6 g ax an au V Y) _ := hP
            have hD : va_D A (az_w6 g ax an au V Y) := hD
            rw [← Option.some.inj h]
            exact az_throwS (k := 2) (ws' := az_w6 g ax an au V Y) (by decide) rfl (by decide +kernel) hx hb hst hown (hcx.2.2.2.1 0) (hts _ (List.mem_of_getElem? (i := 1) rfl)) (hts _ (List.mem_of_getElem? (i := 2) rfl)) hts (fun _ h => List.mem_cons_of_mem _ (List.mem_append_left _ (List.mem_append_right _ h))) thno_S_174 thgd_S_170_174 hcx hK hP hD hS (hl.1.trans hml.symm) dX6_reader_99 dX6_reader_102 dX6_reader_103 dX6_reader_105 dX6_reader_108 hex (Nat.le_of_ble_eq_true rfl) (Nat.le_of_ble_eq_true rfl) (Nat.le_of_ble_eq_true rfl) (Nat.le_of_ble_eq_true rfl) hlocks (Nat.le_of_ble_eq_true rfl) (Nat.le_of_ble_eq_true rfl)

def FX6_blockers (V : az_St) : Option (Int32) := (FX2_stalledMask V ((V 16) 1)).bind (fun o14 => some (o14))
theorem inX6_blockers_RX5 : ∀ w ∈ wsX50, w ∈ wsX6_blockers := az_inr [22, 23, 24, 25, 26, 27, 28, 29, 30, 31, 32] (by decide +kernel)
theorem inX6_blockers_RX6 : ∀ w ∈ wsX60, w ∈ wsX6_blockers := az_inr [19, 20, 21] (by decide +kernel)
set_option maxHeartbeats 4000000 in
set_option maxRecDepth 100000 in
theorem kX6_blockers (l : Launch) (g : az_G) (ax : Nat → Nat) (an : Nat → Nat) (au : Nat → Nat) (Y : va_W) (V : az_St) (o : Int32) (h : FX6_blockers V = some o) : az_I l yX6_blockers wsX6_blockers ({ frames := 3, cells := 0, slots := 0, locals := 66 } : Room) [.ref (ax 0)] g (az_w6 g ax an au V Y) o (az_w6 g ax an au V Y) := by
  refine az_body (cc := cX6_blockers) (maxL := 1) (ret := (some .int)) (Qc := fun A => az_QI g (az_w6 g ax an au V Y) o A) (by decide +kernel) rfl (Nat.le_of_ble_eq_true rfl) ?_
  intro p e s m args below meth c A hx hb hr hts hown hml hlocks hA hK hP hD hS ls hl
  have hl : lv_has ls 1 [(0, .ref (ax 0))] := hl
  unfold FX6_blockers at h
  refine lv_aload_n hx hb dX6_blockers_0 rfl (lv_at hl 0 rfl) ?_
  refine va_get (D := g.1) (ci := 6) (v := .ref (an 0)) (C := RX6) (T := TX6) (N := 3) hx hb hts inX6_blockers_RX6 hown hK hP 0 rfl rfl 0 (Nat.le_of_ble_eq_true rfl) (hts _ (List.mem_of_getElem? (i := 1) rfl)) (fun _ h9 => h9) rfl dX6_blockers_1 ?_
  refine va_get (D := g.1) (ci := 5) (v := .ref (an 13)) (C := RX5) (T := TX5) (N := 11) hx hb hts inX6_blockers_RX5 hown hK hP 1 rfl rfl 2 (Nat.le_of_ble_eq_true rfl) (hts _ (List.mem_of_getElem? (i := 2) rfl)) (fun _ h9 => h9) rfl dX6_blockers_4 ?_
  refine lv_aload_n hx hb dX6_blockers_7 rfl (lv_at hl 0 rfl) ?_
  refine va_get (D := g.1) (ci := 6) (v := .ref (an 0)) (C := RX6) (T := TX6) (N := 3) hx hb hts inX6_blockers_RX6 hown hK hP 0 rfl rfl 0 (Nat.le_of_ble_eq_true rfl) (hts _ (List.mem_of_getElem? (i := 1) rfl)) (fun _ h9 => h9) rfl dX6_blockers_8 ?_
  refine va_get (D := g.1) (ci := 5) (v := .int ((V 16) 1)) (C := RX5) (T := TX5) (N := 11) hx hb hts inX6_blockers_RX5 hown hK hP 1 rfl rfl 6 (Nat.le_of_ble_eq_true rfl) (hts _ (List.mem_of_getElem? (i := 3) rfl)) (fun _ h9 => h9) rfl dX6_blockers_11 ?_
  obtain ⟨o14, hc14, h⟩ := az_bnd h
  refine az_callPi (w2 := az_w6 g ax an au V Y) (As := [.int ((V 16) 1)]) (rest := []) ⟨hx, hb, hml, hown, hts⟩ hl.1 (kX2_stalledMask l g an V ((V 16) 1) o14 hc14) (cwV 1 hts gX6_blockers_X2_stalledMask rfl rfl rfl (by decide +kernel) ⟨(Nat.le_of_ble_eq_true rfl), (Nat.le_of_ble_eq_true rfl)⟩) rfl hK hP hD hS hA (az_pm (az_x ax an au :: (az_cV g an V).take 13) (az_cR g an V) ((az_cV g an V).drop 16 ++ Y)) (az_pm (az_x ax an au :: (az_cV g an V).take 13) (az_cR g an V) ((az_cV g an V).drop 16 ++ Y)).symm 0 rfl rfl rfl (Nat.le_of_ble_eq_true rfl) dX6_blockers_14 ⟨Nat.zero_le _, Nat.zero_le _⟩ rfl (fun H locs hP hD hS => ?_)
  have hP : va_P g.1 az_cl (az_w6 g ax an au V Y) _ := hP
  have hD : va_D A (az_w6 g ax an au V Y) := hD
  have hP : va_P g.1 az_cl (az_w6 g ax an au V Y) _ := hP
  have hD : va_D A (az_w6 g ax an au V Y) := hD
  rw [← Option.some.inj h]
  exact az_iret hx hb hr hlocks hK hP hD hS dX6_blockers_17

def FX6_expel (V : az_St) (T : az_St) (S : Nat → az_St) (hs : Nat → Int32) (x1 : Int32) : Option (Nat × Int32 × (Nat → az_St) × (Nat → Int32) × (Nat → Int32) × (Nat → Int32) × (Nat → Int32)) := (FX6_checkReader x1).bind (fun o1 => if o1 = 0 then ((FX2_isInside V x1).bind (fun o12 => (FX6_checkState o12).bind (fun o15 => if o15 = 0 then ((FX5_stallOf V x1).bind (fun o23 => if o23 < (V 16) 0 then ((FX6_checkState (0 : Int32)).bind (fun o41 => if o41 = 0 then ((FX1_save S hs V).bind (fun o52 => (FX2_sendOut V x1 (2 : Int32)).bind (fun o64 => (FX0_releaseAll (va_up (va_up V 11 o64.1) 12 o64.2) x1).bind (fun o75 => some (0, o75.1, o52.1, o75.2, o64.1, o64.2, o52.2))))) else some (o41, (0 : Int32), S, (V 10), (V 11), (V 12), hs))) else ((FX6_checkState (1 : Int32)).bind (fun o41 => if o41 = 0 then ((FX1_save S hs V).bind (fun o52 => (FX2_sendOut V x1 (2 : Int32)).bind (fun o64 => (FX0_releaseAll (va_up (va_up V 11 o64.1) 12 o64.2) x1).bind (fun o75 => some (0, o75.1, o52.1, o75.2, o64.1, o64.2, o52.2))))) else some (o41, (0 : Int32), S, (V 10), (V 11), (V 12), hs))))) else some (o15, (0 : Int32), S, (V 10), (V 11), (V 12), hs)))) else some (o1, (0 : Int32), S, (V 10), (V 11), (V 12), hs))
theorem inX6_expel_RX5 : ∀ w ∈ wsX50, w ∈ wsX6_expel := az_inr [131, 132, 133, 134, 135, 136, 137, 138, 139, 140, 141] (by decide +kernel)
theorem inX6_expel_RX6 : ∀ w ∈ wsX60, w ∈ wsX6_expel := az_inr [128, 129, 130] (by decide +kernel)
set_option maxHeartbeats 4000000 in
set_option maxRecDepth 100000 in
theorem kX6_expel (l : Launch) (hst : l.stackTraces = false) (g : az_G) (sa : Nat → Nat) (ax : Nat → Nat) (an : Nat → Nat) (au : Nat → Nat) (aw : Nat → Nat → Nat) (V : az_St) (T : az_St) (S : Nat → az_St) (hs : Nat → Int32) (x1 : Int32) (o : Nat × Int32 × (Nat → az_St) × (Nat → Int32) × (Nat → Int32) × (Nat → Int32) × (Nat → Int32)) (h : FX6_expel V T S hs x1 = some o) : az_TI l yX6_expel wsX6_expel ({ frames := 8, cells := 3, slots := 18, locals := 164 } : Room) [.ref (ax 0), .int x1] g sa (az_w6 g ax an au V (az_cV g au T ++ az_cH g ax aw S hs)) o.1 o.2.1 (az_w6 g ax an au (va_up (va_up (va_up V 10 o.2.2.2.1) 11 o.2.2.2.2.1) 12 o.2.2.2.2.2.1) (az_cV g au T ++ az_cH g ax aw o.2.2.1 o.2.2.2.2.2.2)) 3 := by
  refine az_bodyT (cc := cX6_expel) (maxL := 2) (ret := (some .int)) (mc := 3) (ms := 18) (Qc := fun A => az_QTI g (az_w6 g ax an au (va_up (va_up (va_up V 10 o.2.2.2.1) 11 o.2.2.2.2.1) 12 o.2.2.2.2.2.1) (az_cV g au T ++ az_cH g ax aw o.2.2.1 o.2.2.2.2.2.2)) o.1 o.2.1 A) (XC := fun A => az_XT g (az_w6 g ax an au (va_up (va_up (va_up V 10 o.2.2.2.1) 11 o.2.2.2.2.1) 12 o.2.2.2.2.2.1) (az_cV g au T ++ az_cH g ax aw o.2.2.1 o.2.2.2.2.2.2)) o.1 A) (by decide +kernel) rfl (Nat.le_of_ble_eq_true rfl) ?_
  intro p e s m args below meth c A hx hb hr hts hown hml hlocks hex hcx hA hK hP hD hS ls hl
  have hl : lv_has ls 2 [(0, .ref (ax 0)), (1, .int x1)] := hl
  unfold FX6_expel at h
  refine lv_iload_n hx hb dX6_expel_0 rfl (lv_at hl 1 rfl) ?_
  obtain ⟨o1, hc1, h⟩ := az_bnd h
  refine az_callST (As := [.int x1]) (rest := []) ⟨hx, hb, hml, hown, hts⟩ hl.1 (kX6_checkReader l hst g sa x1 o1 hc1) (va_cwS 1 hts gX6_expel_X6_checkReader rfl rfl rfl (by decide +kernel) ⟨(Nat.le_of_ble_eq_true rfl), (Nat.le_of_ble_eq_true rfl)⟩) rfl hK hcx hP hS hA (Nat.le_of_ble_eq_true rfl) dX6_expel_1 ⟨(Nat.le_of_ble_eq_true rfl), (Nat.le_of_ble_eq_true rfl)⟩ rfl (fun n1 ce q9 H locs hP hS hce hcv hcl => ?_) (fun c1 H locs hP hS => ?_)
  · replace h := az_neg n1 h
    have hP : va_P g.1 az_cl (az_w6 g ax an au (va_up (va_up (va_up V 10 (V 10)) 11 (V 11)) 12 (V 12)) (az_cV g au T ++ az_cH g ax aw S hs)) _ := hP
    have hD : va_D A (az_w6 g ax an au (va_up (va_up (va_up V 10 (V 10)) 11 (V 11)) 12 (V 12)) (az_cV g au T ++ az_cH g ax aw S hs)) := hD
    rw [← Option.some.inj h]
    exact az_outT n1 hex hlocks hce hcv hcl hK hP hD hS (Nat.le_of_ble_eq_true rfl) (Nat.le_of_ble_eq_true rfl)
  replace h := az_pos c1 h
  refine lv_aload_n hx hb dX6_expel_4 rfl (lv_at hl 0 rfl) ?_
  refine va_get (D := g.1) (ci := 6) (v := .ref (an 0)) (C := RX6) (T := TX6) (N := 3) hx hb hts inX6_expel_RX6 hown hK hP 0 rfl rfl 0 (Nat.le_of_ble_eq_true rfl) (hts _ (List.mem_of_getElem? (i := 1) rfl)) (fun _ h9 => h9) rfl dX6_expel_5 ?_
  refine va_get (D := g.1) (ci := 5) (v := .ref (an 13)) (C := RX5) (T := TX5) (N := 11) hx hb hts inX6_expel_RX5 hown hK hP 1 rfl rfl 2 (Nat.le_of_ble_eq_true rfl) (hts _ (List.mem_of_getElem? (i := 2) rfl)) (fun _ h9 => h9) rfl dX6_expel_8 ?_
  refine lv_iload_n hx hb dX6_expel_11 rfl (lv_at hl 1 rfl) ?_
  obtain ⟨o12, hc12, h⟩ := az_bnd h
  refine az_callPi (w2 := az_w6 g ax an au V (az_cV g au T ++ az_cH g ax aw S hs)) (As := [.int x1]) (rest := []) ⟨hx, hb, hml, hown, hts⟩ hl.1 (kX2_isInside l g an V x1 o12 hc12) (cwV 1 hts gX6_expel_X2_isInside rfl rfl rfl (by decide +kernel) ⟨(Nat.le_of_ble_eq_true rfl), (Nat.le_of_ble_eq_true rfl)⟩) rfl hK hP hD hS hA (az_pm (az_x ax an au :: (az_cV g an V).take 13) (az_cR g an V) ((az_cV g an V).drop 16 ++ (az_cV g au T ++ az_cH g ax aw S hs))) (az_pm (az_x ax an au :: (az_cV g an V).take 13) (az_cR g an V) ((az_cV g an V).drop 16 ++ (az_cV g au T ++ az_cH g ax aw S hs))).symm 0 rfl rfl rfl (Nat.le_of_ble_eq_true rfl) dX6_expel_12 ⟨(Nat.le_of_ble_eq_true rfl), (Nat.le_of_ble_eq_true rfl)⟩ rfl (fun H locs hP hD hS => ?_)
  have hP : va_P g.1 az_cl (az_w6 g ax an au V (az_cV g au T ++ az_cH g ax aw S hs)) _ := hP
  have hD : va_D A (az_w6 g ax an au V (az_cV g au T ++ az_cH g ax aw S hs)) := hD
  obtain ⟨o15, hc15, h⟩ := az_bnd h
  refine az_callST (As := [.int o12]) (rest := []) ⟨hx, hb, hml, hown, hts⟩ hl.1 (kX6_checkState l hst g sa o12 o15 hc15) (va_cwS 1 hts gX6_expel_X6_checkState rfl rfl rfl (by decide +kernel) ⟨(Nat.le_of_ble_eq_true rfl), (Nat.le_of_ble_eq_true rfl)⟩) rfl hK hcx hP hS hA (Nat.le_of_ble_eq_true rfl) dX6_expel_15 ⟨(Nat.le_of_ble_eq_true rfl), (Nat.le_of_ble_eq_true rfl)⟩ rfl (fun n15 ce q9 H locs hP hS hce hcv hcl => ?_) (fun c15 H locs hP hS => ?_)
  · replace h := az_neg n15 h
    have hP : va_P g.1 az_cl (az_w6 g ax an au (va_up (va_up (va_up V 10 (V 10)) 11 (V 11)) 12 (V 12)) (az_cV g au T ++ az_cH g ax aw S hs)) _ := hP
    have hD : va_D A (az_w6 g ax an au (va_up (va_up (va_up V 10 (V 10)) 11 (V 11)) 12 (V 12)) (az_cV g au T ++ az_cH g ax aw S hs)) := hD
    rw [← Option.some.inj h]
    exact az_outT n15 hex hlocks hce hcv hcl hK hP hD hS (Nat.le_of_ble_eq_true rfl) (Nat.le_of_ble_eq_true rfl)
  replace h := az_pos c15 h
  refine lv_aload_n hx hb dX6_expel_18 rfl (lv_at hl 0 rfl) ?_
  refine va_get (D := g.1) (ci := 6) (v := .ref (an 0)) (C := RX6) (T := TX6) (N := 3) hx hb hts inX6_expel_RX6 hown hK hP 0 rfl rfl 0 (Nat.le_of_ble_eq_true rfl) (hts _ (List.mem_of_getElem? (i := 1) rfl)) (fun _ h9 => h9) rfl dX6_expel_19 ?_
  refine lv_iload_n hx hb dX6_expel_22 rfl (lv_at hl 1 rfl) ?_
  obtain ⟨o23, hc23, h⟩ := az_bnd h
  refine az_callPi (w2 := az_w6 g ax an au V (az_cV g au T ++ az_cH g ax aw S hs)) (As := [.int x1]) (rest := []) ⟨hx, hb, hml, hown, hts⟩ hl.1 (kX5_stallOf l g an V x1 o23 hc23) (cwV 1 hts gX6_expel_X5_stallOf rfl rfl rfl (by decide +kernel) ⟨(Nat.le_of_ble_eq_true rfl), (Nat.le_of_ble_eq_true rfl)⟩) rfl hK hP hD hS hA (az_pm (az_x ax an au :: (az_cV g an V).take 0) (az_cV g an V) ((az_cV g an V).drop 20 ++ (az_cV g au T ++ az_cH g ax aw S hs))) (az_pm (az_x ax an au :: (az_cV g an V).take 0) (az_cV g an V) ((az_cV g an V).drop 20 ++ (az_cV g au T ++ az_cH g ax aw S hs))).symm 0 rfl rfl rfl (Nat.le_of_ble_eq_true rfl) dX6_expel_23 ⟨(Nat.le_of_ble_eq_true rfl), (Nat.le_of_ble_eq_true rfl)⟩ rfl (fun H locs hP hD hS => ?_)
  have hP : va_P g.1 az_cl (az_w6 g ax an au V (az_cV g au T ++ az_cH g ax aw S hs)) _ := hP
  have hD : va_D A (az_w6 g ax an au V (az_cV g au T ++ az_cH g ax aw S hs)) := hD
  refine lv_aload_n hx hb dX6_expel_26 rfl (lv_at hl 0 rfl) ?_
  refine va_get (D := g.1) (ci := 6) (v := .ref (an 0)) (C := RX6) (T := TX6) (N := 3) hx hb hts inX6_expel_RX6 hown hK hP 0 rfl rfl 0 (Nat.le_of_ble_eq_true rfl) (hts _ (List.mem_of_getElem? (i := 1) rfl)) (fun _ h9 => h9) rfl dX6_expel_27 ?_
  refine va_get (D := g.1) (ci := 5) (v := .int ((V 16) 0)) (C := RX5) (T := TX5) (N := 11) hx hb hts inX6_expel_RX5 hown hK hP 1 rfl rfl 5 (Nat.le_of_ble_eq_true rfl) (hts _ (List.mem_of_getElem? (i := 3) rfl)) (fun _ h9 => h9) rfl dX6_expel_30 ?_
  refine lv_icmp_lt (tgt := 40) hx hb dX6_expel_33 (by decide) (fun c33 => ?_) (fun c33 => ?_)
  · replace h := az_pos c33 h
    refine lv_iconst (v := (0 : Int32)) hx hb dX6_expel_40 (by decide) ?_
    obtain ⟨o41, hc41, h⟩ := az_bnd h
    refine az_callST (As := [.int (0 : Int32)]) (rest := []) ⟨hx, hb, hml, hown, hts⟩ hl.1 (kX6_checkState l hst g sa (0 : Int32) o41 hc41) (va_cwS 1 hts gX6_expel_X6_checkState rfl rfl rfl (by decide +kernel) ⟨(Nat.le_of_ble_eq_true rfl), (Nat.le_of_ble_eq_true rfl)⟩) rfl hK hcx hP hS hA (Nat.le_of_ble_eq_true rfl) dX6_expel_41 ⟨(Nat.le_of_ble_eq_true rfl), (Nat.le_of_ble_eq_true rfl)⟩ rfl (fun n41 ce q9 H locs hP hS hce hcv hcl => ?_) (fun c41 H locs hP hS => ?_)
    · replace h := az_neg n41 h
      have hP : va_P g.1 az_cl (az_w6 g ax an au (va_up (va_up (va_up V 10 (V 10)) 11 (V 11)) 12 (V 12)) (az_cV g au T ++ az_cH g ax aw S hs)) _ := hP
      have hD : va_D A (az_w6 g ax an au (va_up (va_up (va_up V 10 (V 10)) 11 (V 11)) 12 (V 12)) (az_cV g au T ++ az_cH g ax aw S hs)) := hD
      rw [← Option.some.inj h]
      exact az_outT n41 hex hlocks hce hcv hcl hK hP hD hS (Nat.le_of_ble_eq_true rfl) (Nat.le_of_ble_eq_true rfl)
    replace h := az_pos c41 h
    refine lv_aload_n hx hb dX6_expel_44 rfl (lv_at hl 0 rfl) ?_
    refine va_get (D := g.1) (ci := 6) (v := .ref (ax 1)) (C := RX6) (T := TX6) (N := 3) hx hb hts inX6_expel_RX6 hown hK hP 0 rfl rfl 2 (Nat.le_of_ble_eq_true rfl) (hts _ (List.mem_of_getElem? (i := 4) rfl)) (fun _ h9 => h9) rfl dX6_expel_45 ?_
    refine lv_aload_n hx hb dX6_expel_48 rfl (lv_at hl 0 rfl) ?_
    refine va_get (D := g.1) (ci := 6) (v := .ref (an 0)) (C := RX6) (T := TX6) (N := 3) hx hb hts inX6_expel_RX6 hown hK hP 0 rfl rfl 0 (Nat.le_of_ble_eq_true rfl) (hts _ (List.mem_of_getElem? (i := 1) rfl)) (fun _ h9 => h9) rfl dX6_expel_49 ?_
    obtain ⟨o52, hc52, h⟩ := az_bnd h
    refine az_callPv (w2 := az_w6 g ax an au V (az_cV g au T ++ az_cH g ax aw o52.1 o52.2)) (As := [.ref (an 0)]) (rest := []) ⟨hx, hb, hml, hown, hts⟩ hl.1 (kX1_save l g ax an aw S hs V o52 hc52) (cwV 1 hts gX6_expel_X1_save rfl rfl rfl (by decide +kernel) ⟨(Nat.le_of_ble_eq_true rfl), (Nat.le_of_ble_eq_true rfl)⟩) rfl hK hP hD hS hA (az_pH (az_x ax an au) (az_cV g an V) (az_cV g au T) (az_cH g ax aw S hs)) (az_pH (az_x ax an au) (az_cV g an V) (az_cV g au T) (az_cH g ax aw o52.1 o52.2)).symm 0 rfl rfl rfl (Nat.le_of_ble_eq_true rfl) dX6_expel_52 ⟨(Nat.le_of_ble_eq_true rfl), (Nat.le_of_ble_eq_true rfl)⟩ rfl (fun H locs hP hD hS => ?_)
    have hP : va_P g.1 az_cl (az_w6 g ax an au V (az_cV g au T ++ az_cH g ax aw o52.1 o52.2)) _ := hP
    have hD : va_D A (az_w6 g ax an au V (az_cV g au T ++ az_cH g ax aw o52.1 o52.2)) := hD
    refine lv_aload_n hx hb dX6_expel_55 rfl (lv_at hl 0 rfl) ?_
    refine va_get (D := g.1) (ci := 6) (v := .ref (an 0)) (C := RX6) (T := TX6) (N := 3) hx hb hts inX6_expel_RX6 hown hK hP 0 rfl rfl 0 (Nat.le_of_ble_eq_true rfl) (hts _ (List.mem_of_getElem? (i := 1) rfl)) (fun _ h9 => h9) rfl dX6_expel_56 ?_
    refine va_get (D := g.1) (ci := 5) (v := .ref (an 13)) (C := RX5) (T := TX5) (N := 11) hx hb hts inX6_expel_RX5 hown hK hP 1 rfl rfl 2 (Nat.le_of_ble_eq_true rfl) (hts _ (List.mem_of_getElem? (i := 2) rfl)) (fun _ h9 => h9) rfl dX6_expel_59 ?_
    refine lv_iload_n hx hb dX6_expel_62 rfl (lv_at hl 1 rfl) ?_
    refine lv_iconst (v := (2 : Int32)) hx hb dX6_expel_63 (by decide) ?_
    obtain ⟨o64, hc64, h⟩ := az_bnd h
    refine az_callPv (w2 := az_w6 g ax an au (va_up (va_up V 11 o64.1) 12 o64.2) (az_cV g au T ++ az_cH g ax aw o52.1 o52.2)) (As := [.int x1, .int (2 : Int32)]) (rest := []) ⟨hx, hb, hml, hown, hts⟩ hl.1 (kX2_sendOut l g an V x1 (2 : Int32) o64 hc64) (cwV 2 hts gX6_expel_X2_sendOut rfl rfl rfl (by decide +kernel) ⟨(Nat.le_of_ble_eq_true rfl), (Nat.le_of_ble_eq_true rfl)⟩) rfl hK hP hD hS hA (az_pm (az_x ax an au :: (az_cV g an V).take 13) (az_cR g an V) ((az_cV g an V).drop 16 ++ (az_cV g au T ++ az_cH g ax aw o52.1 o52.2))) (az_pm (az_x ax an au :: (az_cV g an V).take 13) (az_cR g an (va_up (va_up V 11 o64.1) 12 o64.2)) ((az_cV g an V).drop 16 ++ (az_cV g au T ++ az_cH g ax aw o52.1 o52.2))).symm 0 rfl rfl rfl (Nat.le_of_ble_eq_true rfl) dX6_expel_64 ⟨(Nat.le_of_ble_eq_true rfl), (Nat.le_of_ble_eq_true rfl)⟩ rfl (fun H locs hP hD hS => ?_)
    have hP : va_P g.1 az_cl (az_w6 g ax an au (va_up (va_up V 11 o64.1) 12 o64.2) (az_cV g au T ++ az_cH g ax aw o52.1 o52.2)) _ := hP
    have hD : va_D A (az_w6 g ax an au (va_up (va_up V 11 o64.1) 12 o64.2) (az_cV g au T ++ az_cH g ax aw o52.1 o52.2)) := hD
    refine lv_aload_n hx hb dX6_expel_67 rfl (lv_at hl 0 rfl) ?_
    refine va_get (D := g.1) (ci := 6) (v := .ref (an 0)) (C := RX6) (T := TX6) (N := 3) hx hb hts inX6_expel_RX6 hown hK hP 0 rfl rfl 0 (Nat.le_of_ble_eq_true rfl) (hts _ (List.mem_of_getElem? (i := 1) rfl)) (fun _ h9 => h9) rfl dX6_expel_68 ?_
    refine va_get (D := g.1) (ci := 5) (v := .ref (an 6)) (C := RX5) (T := TX5) (N := 11) hx hb hts inX6_expel_RX5 hown hK hP 1 rfl rfl 1 (Nat.le_of_ble_eq_true rfl) (hts _ (List.mem_of_getElem? (i := 5) rfl)) (fun _ h9 => h9) rfl dX6_expel_71 ?_
    refine lv_iload_n hx hb dX6_expel_74 rfl (lv_at hl 1 rfl) ?_
    obtain ⟨o75, hc75, h⟩ := az_bnd h
    refine az_callPi (w2 := az_w6 g ax an au (va_up (va_up (va_up V 10 o75.2) 11 o64.1) 12 o64.2) (az_cV g au T ++ az_cH g ax aw o52.1 o52.2)) (As := [.int x1]) (rest := []) ⟨hx, hb, hml, hown, hts⟩ hl.1 (kX0_releaseAll l g an (va_up (va_up V 11 o64.1) 12 o64.2) x1 o75 hc75) (cwV 1 hts gX6_expel_X0_releaseAll rfl rfl rfl (by decide +kernel) ⟨(Nat.le_of_ble_eq_true rfl), (Nat.le_of_ble_eq_true rfl)⟩) rfl hK hP hD hS hA (az_pm (az_x ax an au :: (az_cV g an (va_up (va_up V 11 o64.1) 12 o64.2)).take 6) (az_cB g an (va_up (va_up V 11 o64.1) 12 o64.2)) ((az_cV g an (va_up (va_up V 11 o64.1) 12 o64.2)).drop 13 ++ (az_cV g au T ++ az_cH g ax aw o52.1 o52.2))) (az_pm (az_x ax an au :: (az_cV g an (va_up (va_up V 11 o64.1) 12 o64.2)).take 6) (az_cB g an (va_up (va_up (va_up V 10 o75.2) 11 o64.1) 12 o64.2)) ((az_cV g an (va_up (va_up V 11 o64.1) 12 o64.2)).drop 13 ++ (az_cV g au T ++ az_cH g ax aw o52.1 o52.2))).symm 0 rfl rfl rfl (Nat.le_of_ble_eq_true rfl) dX6_expel_75 ⟨(Nat.le_of_ble_eq_true rfl), (Nat.le_of_ble_eq_true rfl)⟩ rfl (fun H locs hP hD hS => ?_)
    have hP : va_P g.1 az_cl (az_w6 g ax an au (va_up (va_up (va_up V 10 o75.2) 11 o64.1) 12 o64.2) (az_cV g au T ++ az_cH g ax aw o52.1 o52.2)) _ := hP
    have hD : va_D A (az_w6 g ax an au (va_up (va_up (va_up V 10 o75.2) 11 o64.1) 12 o64.2) (az_cV g au T ++ az_cH g ax aw o52.1 o52.2)) := hD
    have hP : va_P g.1 az_cl (az_w6 g ax an au (va_up (va_up (va_up V 10 o75.2) 11 o64.1) 12 o64.2) (az_cV g au T ++ az_cH g ax aw o52.1 o52.2)) _ := hP
    have hD : va_D A (az_w6 g ax an au (va_up (va_up (va_up V 10 o75.2) 11 o64.1) 12 o64.2) (az_cV g au T ++ az_cH g ax aw o52.1 o52.2)) := hD
    rw [← Option.some.inj h]
    exact az_iretT hx hb hr hlocks hK hP hD hS dX6_expel_78 (Nat.le_of_ble_eq_true rfl) (Nat.le_of_ble_eq_true rfl)
  · replace h := az_neg c33 h
    refine lv_iconst (v := (1 : Int32)) hx hb dX6_expel_36 (by decide) ?_
    refine lv_goto (tgt := 41) hx hb dX6_expel_37 (by decide) ?_
    obtain ⟨o41, hc41, h⟩ := az_bnd h
    refine az_callST (As := [.int (1 : Int32)]) (rest := []) ⟨hx, hb, hml, hown, hts⟩ hl.1 (kX6_checkState l hst g sa (1 : Int32) o41 hc41) (va_cwS 1 hts gX6_expel_X6_checkState rfl rfl rfl (by decide +kernel) ⟨(Nat.le_of_ble_eq_true rfl), (Nat.le_of_ble_eq_true rfl)⟩) rfl hK hcx hP hS hA (Nat.le_of_ble_eq_true rfl) dX6_expel_41 ⟨(Nat.le_of_ble_eq_true rfl), (Nat.le_of_ble_eq_true rfl)⟩ rfl (fun n41 ce q9 H locs hP hS hce hcv hcl => ?_) (fun c41 H locs hP hS => ?_)
    · replace h := az_neg n41 h
      have hP : va_P g.1 az_cl (az_w6 g ax an au (va_up (va_up (va_up V 10 (V 10)) 11 (V 11)) 12 (V 12)) (az_cV g au T ++ az_cH g ax aw S hs)) _ := hP
      have hD : va_D A (az_w6 g ax an au (va_up (va_up (va_up V 10 (V 10)) 11 (V 11)) 12 (V 12)) (az_cV g au T ++ az_cH g ax aw S hs)) := hD
      rw [← Option.some.inj h]
      exact az_outT n41 hex hlocks hce hcv hcl hK hP hD hS (Nat.le_of_ble_eq_true rfl) (Nat.le_of_ble_eq_true rfl)
    replace h := az_pos c41 h
    refine lv_aload_n hx hb dX6_expel_44 rfl (lv_at hl 0 rfl) ?_
    refine va_get (D := g.1) (ci := 6) (v := .ref (ax 1)) (C := RX6) (T := TX6) (N := 3) hx hb hts inX6_expel_RX6 hown hK hP 0 rfl rfl 2 (Nat.le_of_ble_eq_true rfl) (hts _ (List.mem_of_getElem? (i := 4) rfl)) (fun _ h9 => h9) rfl dX6_expel_45 ?_
    refine lv_aload_n hx hb dX6_expel_48 rfl (lv_at hl 0 rfl) ?_
    refine va_get (D := g.1) (ci := 6) (v := .ref (an 0)) (C := RX6) (T := TX6) (N := 3) hx hb hts inX6_expel_RX6 hown hK hP 0 rfl rfl 0 (Nat.le_of_ble_eq_true rfl) (hts _ (List.mem_of_getElem? (i := 1) rfl)) (fun _ h9 => h9) rfl dX6_expel_49 ?_
    obtain ⟨o52, hc52, h⟩ := az_bnd h
    refine az_callPv (w2 := az_w6 g ax an au V (az_cV g au T ++ az_cH g ax aw o52.1 o52.2)) (As := [.ref (an 0)]) (rest := []) ⟨hx, hb, hml, hown, hts⟩ hl.1 (kX1_save l g ax an aw S hs V o52 hc52) (cwV 1 hts gX6_expel_X1_save rfl rfl rfl (by decide +kernel) ⟨(Nat.le_of_ble_eq_true rfl), (Nat.le_of_ble_eq_true rfl)⟩) rfl hK hP hD hS hA (az_pH (az_x ax an au) (az_cV g an V) (az_cV g au T) (az_cH g ax aw S hs)) (az_pH (az_x ax an au) (az_cV g an V) (az_cV g au T) (az_cH g ax aw o52.1 o52.2)).symm 0 rfl rfl rfl (Nat.le_of_ble_eq_true rfl) dX6_expel_52 ⟨(Nat.le_of_ble_eq_true rfl), (Nat.le_of_ble_eq_true rfl)⟩ rfl (fun H locs hP hD hS => ?_)
    have hP : va_P g.1 az_cl (az_w6 g ax an au V (az_cV g au T ++ az_cH g ax aw o52.1 o52.2)) _ := hP
    have hD : va_D A (az_w6 g ax an au V (az_cV g au T ++ az_cH g ax aw o52.1 o52.2)) := hD
    refine lv_aload_n hx hb dX6_expel_55 rfl (lv_at hl 0 rfl) ?_
    refine va_get (D := g.1) (ci := 6) (v := .ref (an 0)) (C := RX6) (T := TX6) (N := 3) hx hb hts inX6_expel_RX6 hown hK hP 0 rfl rfl 0 (Nat.le_of_ble_eq_true rfl) (hts _ (List.mem_of_getElem? (i := 1) rfl)) (fun _ h9 => h9) rfl dX6_expel_56 ?_
    refine va_get (D := g.1) (ci := 5) (v := .ref (an 13)) (C := RX5) (T := TX5) (N := 11) hx hb hts inX6_expel_RX5 hown hK hP 1 rfl rfl 2 (Nat.le_of_ble_eq_true rfl) (hts _ (List.mem_of_getElem? (i := 2) rfl)) (fun _ h9 => h9) rfl dX6_expel_59 ?_
    refine lv_iload_n hx hb dX6_expel_62 rfl (lv_at hl 1 rfl) ?_
    refine lv_iconst (v := (2 : Int32)) hx hb dX6_expel_63 (by decide) ?_
    obtain ⟨o64, hc64, h⟩ := az_bnd h
    refine az_callPv (w2 := az_w6 g ax an au (va_up (va_up V 11 o64.1) 12 o64.2) (az_cV g au T ++ az_cH g ax aw o52.1 o52.2)) (As := [.int x1, .int (2 : Int32)]) (rest := []) ⟨hx, hb, hml, hown, hts⟩ hl.1 (kX2_sendOut l g an V x1 (2 : Int32) o64 hc64) (cwV 2 hts gX6_expel_X2_sendOut rfl rfl rfl (by decide +kernel) ⟨(Nat.le_of_ble_eq_true rfl), (Nat.le_of_ble_eq_true rfl)⟩) rfl hK hP hD hS hA (az_pm (az_x ax an au :: (az_cV g an V).take 13) (az_cR g an V) ((az_cV g an V).drop 16 ++ (az_cV g au T ++ az_cH g ax aw o52.1 o52.2))) (az_pm (az_x ax an au :: (az_cV g an V).take 13) (az_cR g an (va_up (va_up V 11 o64.1) 12 o64.2)) ((az_cV g an V).drop 16 ++ (az_cV g au T ++ az_cH g ax aw o52.1 o52.2))).symm 0 rfl rfl rfl (Nat.le_of_ble_eq_true rfl) dX6_expel_64 ⟨(Nat.le_of_ble_eq_true rfl), (Nat.le_of_ble_eq_true rfl)⟩ rfl (fun H locs hP hD hS => ?_)
    have hP : va_P g.1 az_cl (az_w6 g ax an au (va_up (va_up V 11 o64.1) 12 o64.2) (az_cV g au T ++ az_cH g ax aw o52.1 o52.2)) _ := hP
    have hD : va_D A (az_w6 g ax an au (va_up (va_up V 11 o64.1) 12 o64.2) (az_cV g au T ++ az_cH g ax aw o52.1 o52.2)) := hD
    refine lv_aload_n hx hb dX6_expel_67 rfl (lv_at hl 0 rfl) ?_
    refine va_get (D := g.1) (ci := 6) (v := .ref (an 0)) (C := RX6) (T := TX6) (N := 3) hx hb hts inX6_expel_RX6 hown hK hP 0 rfl rfl 0 (Nat.le_of_ble_eq_true rfl) (hts _ (List.mem_of_getElem? (i := 1) rfl)) (fun _ h9 => h9) rfl dX6_expel_68 ?_
    refine va_get (D := g.1) (ci := 5) (v := .ref (an 6)) (C := RX5) (T := TX5) (N := 11) hx hb hts inX6_expel_RX5 hown hK hP 1 rfl rfl 1 (Nat.le_of_ble_eq_true rfl) (hts _ (List.mem_of_getElem? (i := 5) rfl)) (fun _ h9 => h9) rfl dX6_expel_71 ?_
    refine lv_iload_n hx hb dX6_expel_74 rfl (lv_at hl 1 rfl) ?_
    obtain ⟨o75, hc75, h⟩ := az_bnd h
    refine az_callPi (w2 := az_w6 g ax an au (va_up (va_up (va_up V 10 o75.2) 11 o64.1) 12 o64.2) (az_cV g au T ++ az_cH g ax aw o52.1 o52.2)) (As := [.int x1]) (rest := []) ⟨hx, hb, hml, hown, hts⟩ hl.1 (kX0_releaseAll l g an (va_up (va_up V 11 o64.1) 12 o64.2) x1 o75 hc75) (cwV 1 hts gX6_expel_X0_releaseAll rfl rfl rfl (by decide +kernel) ⟨(Nat.le_of_ble_eq_true rfl), (Nat.le_of_ble_eq_true rfl)⟩) rfl hK hP hD hS hA (az_pm (az_x ax an au :: (az_cV g an (va_up (va_up V 11 o64.1) 12 o64.2)).take 6) (az_cB g an (va_up (va_up V 11 o64.1) 12 o64.2)) ((az_cV g an (va_up (va_up V 11 o64.1) 12 o64.2)).drop 13 ++ (az_cV g au T ++ az_cH g ax aw o52.1 o52.2))) (az_pm (az_x ax an au :: (az_cV g an (va_up (va_up V 11 o64.1) 12 o64.2)).take 6) (az_cB g an (va_up (va_up (va_up V 10 o75.2) 11 o64.1) 12 o64.2)) ((az_cV g an (va_up (va_up V 11 o64.1) 12 o64.2)).drop 13 ++ (az_cV g au T ++ az_cH g ax aw o52.1 o52.2))).symm 0 rfl rfl rfl (Nat.le_of_ble_eq_true rfl) dX6_expel_75 ⟨(Nat.le_of_ble_eq_true rfl), (Nat.le_of_ble_eq_true rfl)⟩ rfl (fun H locs hP hD hS => ?_)
    have hP : va_P g.1 az_cl (az_w6 g ax an au (va_up (va_up (va_up V 10 o75.2) 11 o64.1) 12 o64.2) (az_cV g au T ++ az_cH g ax aw o52.1 o52.2)) _ := hP
    have hD : va_D A (az_w6 g ax an au (va_up (va_up (va_up V 10 o75.2) 11 o64.1) 12 o64.2) (az_cV g au T ++ az_cH g ax aw o52.1 o52.2)) := hD
    have hP : va_P g.1 az_cl (az_w6 g ax an au (va_up (va_up (va_up V 10 o75.2) 11 o64.1) 12 o64.2) (az_cV g au T ++ az_cH g ax aw o52.1 o52.2)) _ := hP
    have hD : va_D A (az_w6 g ax an au (va_up (va_up (va_up V 10 o75.2) 11 o64.1) 12 o64.2) (az_cV g au T ++ az_cH g ax aw o52.1 o52.2)) := hD
    rw [← Option.some.inj h]
    exact az_iretT hx hb hr hlocks hK hP hD hS dX6_expel_78 (Nat.le_of_ble_eq_true rfl) (Nat.le_of_ble_eq_true rfl)

def FX6_reclaimableWithout (V : az_St) (x1 : Int32) : Option (Nat × Int32) := if x1 = (-1 : Int32) then ((FX6_checkIndex (1 : Int32)).bind (fun o19 => if o19 = 0 then ((FX5_reclaimableIfGone V x1).bind (fun o27 => some (0, o27))) else some (o19, (0 : Int32)))) else ((FX6_isBetween x1 (0 : Int32) (5 : Int32)).bind (fun o8 => if o8 = (0 : Int32) then ((FX6_checkIndex (0 : Int32)).bind (fun o19 => if o19 = 0 then ((FX5_reclaimableIfGone V x1).bind (fun o27 => some (0, o27))) else some (o19, (0 : Int32)))) else ((FX6_checkIndex (1 : Int32)).bind (fun o19 => if o19 = 0 then ((FX5_reclaimableIfGone V x1).bind (fun o27 => some (0, o27))) else some (o19, (0 : Int32))))))
theorem inX6_reclaimableWithout_RX6 : ∀ w ∈ wsX60, w ∈ wsX6_reclaimableWithout := az_inr [49, 50, 51] (by decide +kernel)
set_option maxHeartbeats 4000000 in
set_option maxRecDepth 100000 in
theorem kX6_reclaimableWithout (l : Launch) (hst : l.stackTraces = false) (g : az_G) (sa : Nat → Nat) (ax : Nat → Nat) (an : Nat → Nat) (au : Nat → Nat) (Y : va_W) (V : az_St) (x1 : Int32) (o : Nat × Int32) (h : FX6_reclaimableWithout V x1 = some o) : az_TI l yX6_reclaimableWithout wsX6_reclaimableWithout ({ frames := 7, cells := 1, slots := 6, locals := 120 } : Room) [.ref (ax 0), .int x1] g sa (az_w6 g ax an au V Y) o.1 o.2 (az_w6 g ax an au V Y) 1 := by
  refine az_bodyT (cc := cX6_reclaimableWithout) (maxL := 2) (ret := (some .int)) (mc := 1) (ms := 6) (Qc := fun A => az_QTI g (az_w6 g ax an au V Y) o.1 o.2 A) (XC := fun A => az_XT g (az_w6 g ax an au V Y) o.1 A) (by decide +kernel) rfl (Nat.le_of_ble_eq_true rfl) ?_
  intro p e s m args below meth c A hx hb hr hts hown hml hlocks hex hcx hA hK hP hD hS ls hl
  have hl : lv_has ls 2 [(0, .ref (ax 0)), (1, .int x1)] := hl
  unfold FX6_reclaimableWithout at h
  refine lv_iload_n hx hb dX6_reclaimableWithout_0 rfl (lv_at hl 1 rfl) ?_
  refine lv_iconst (v := (-1 : Int32)) hx hb dX6_reclaimableWithout_1 (by decide) ?_
  refine lv_icmp_eq (tgt := 14) hx hb dX6_reclaimableWithout_2 (by decide) (fun c2 => ?_) (fun c2 => ?_)
  · replace h := az_pos c2 h
    refine lv_iconst (v := (1 : Int32)) hx hb dX6_reclaimableWithout_14 (by decide) ?_
    refine lv_goto (tgt := 19) hx hb dX6_reclaimableWithout_15 (by decide) ?_
    obtain ⟨o19, hc19, h⟩ := az_bnd h
    refine az_callST (As := [.int (1 : Int32)]) (rest := []) ⟨hx, hb, hml, hown, hts⟩ hl.1 (kX6_checkIndex l hst g sa (1 : Int32) o19 hc19) (va_cwS 1 hts gX6_reclaimableWithout_X6_checkIndex rfl rfl rfl (by decide +kernel) ⟨(Nat.le_of_ble_eq_true rfl), (Nat.le_of_ble_eq_true rfl)⟩) rfl hK hcx hP hS hA (Nat.le_of_ble_eq_true rfl) dX6_reclaimableWithout_19 ⟨(Nat.le_of_ble_eq_true rfl), (Nat.le_of_ble_eq_true rfl)⟩ rfl (fun n19 ce q9 H locs hP hS hce hcv hcl => ?_) (fun c19 H locs hP hS => ?_)
    · replace h := az_neg n19 h
      have hP : va_P g.1 az_cl (az_w6 g ax an au V Y) _ := hP
      have hD : va_D A (az_w6 g ax an au V Y) := hD
      rw [← Option.some.inj h]
      exact az_outT n19 hex hlocks hce hcv hcl hK hP hD hS (Nat.le_of_ble_eq_true rfl) (Nat.le_of_ble_eq_true rfl)
    replace h := az_pos c19 h
    refine lv_aload_n hx hb dX6_reclaimableWithout_22 rfl (lv_at hl 0 rfl) ?_
    refine va_get (D := g.1) (ci := 6) (v := .ref (an 0)) (C := RX6) (T := TX6) (N := 3) hx hb hts inX6_reclaimableWithout_RX6 hown hK hP 0 rfl rfl 0 (Nat.le_of_ble_eq_true rfl) (hts _ (List.mem_of_getElem? (i := 1) rfl)) (fun _ h9 => h9) rfl dX6_reclaimableWithout_23 ?_
    refine lv_iload_n hx hb dX6_reclaimableWithout_26 rfl (lv_at hl 1 rfl) ?_
    obtain ⟨o27, hc27, h⟩ := az_bnd h
    refine az_callPi (w2 := az_w6 g ax an au V Y) (As := [.int x1]) (rest := []) ⟨hx, hb, hml, hown, hts⟩ hl.1 (kX5_reclaimableIfGone l g an V x1 o27 hc27) (cwV 1 hts gX6_reclaimableWithout_X5_reclaimableIfGone rfl rfl rfl (by decide +kernel) ⟨(Nat.le_of_ble_eq_true rfl), (Nat.le_of_ble_eq_true rfl)⟩) rfl hK hP hD hS hA (az_pm (az_x ax an au :: (az_cV g an V).take 0) (az_cV g an V) ((az_cV g an V).drop 20 ++ Y)) (az_pm (az_x ax an au :: (az_cV g an V).take 0) (az_cV g an V) ((az_cV g an V).drop 20 ++ Y)).symm 0 rfl rfl rfl (Nat.le_of_ble_eq_true rfl) dX6_reclaimableWithout_27 ⟨(Nat.le_of_ble_eq_true rfl), (Nat.le_of_ble_eq_true rfl)⟩ rfl (fun H locs hP hD hS => ?_)
    have hP : va_P g.1 az_cl (az_w6 g ax an au V Y) _ := hP
    have hD : va_D A (az_w6 g ax an au V Y) := hD
    have hP : va_P g.1 az_cl (az_w6 g ax an au V Y) _ := hP
    have hD : va_D A (az_w6 g ax an au V Y) := hD
    rw [← Option.some.inj h]
    exact az_iretT hx hb hr hlocks hK hP hD hS dX6_reclaimableWithout_30 (Nat.le_of_ble_eq_true rfl) (Nat.le_of_ble_eq_true rfl)
  · replace h := az_neg c2 h
    refine lv_iload_n hx hb dX6_reclaimableWithout_5 rfl (lv_at hl 1 rfl) ?_
    refine lv_iconst (v := (0 : Int32)) hx hb dX6_reclaimableWithout_6 (by decide) ?_
    refine lv_iconst (v := (5 : Int32)) hx hb dX6_reclaimableWithout_7 (by decide) ?_
    obtain ⟨o8, hc8, h⟩ := az_bnd h
    refine az_callS0 (As := [.int x1, .int (0 : Int32), .int (5 : Int32)]) (rest := []) ⟨hx, hb, hml, hown, hts⟩ hl.1 (kX6_isBetween l g x1 (0 : Int32) (5 : Int32) o8 hc8) (va_cwS 3 hts gX6_reclaimableWithout_X6_isBetween rfl rfl rfl (by decide +kernel) ⟨(Nat.le_of_ble_eq_true rfl), (Nat.le_of_ble_eq_true rfl)⟩) rfl hK hP hS hA (Nat.le_of_ble_eq_true rfl) dX6_reclaimableWithout_8 ⟨(Nat.le_of_ble_eq_true rfl), (Nat.le_of_ble_eq_true rfl)⟩ rfl (fun H locs hP hS => ?_)
    refine lv_if_eq (tgt := 18) hx hb dX6_reclaimableWithout_11 (by decide) (fun c11 => ?_) (fun c11 => ?_)
    · replace h := az_pos c11 h
      refine lv_iconst (v := (0 : Int32)) hx hb dX6_reclaimableWithout_18 (by decide) ?_
      obtain ⟨o19, hc19, h⟩ := az_bnd h
      refine az_callST (As := [.int (0 : Int32)]) (rest := []) ⟨hx, hb, hml, hown, hts⟩ hl.1 (kX6_checkIndex l hst g sa (0 : Int32) o19 hc19) (va_cwS 1 hts gX6_reclaimableWithout_X6_checkIndex rfl rfl rfl (by decide +kernel) ⟨(Nat.le_of_ble_eq_true rfl), (Nat.le_of_ble_eq_true rfl)⟩) rfl hK hcx hP hS hA (Nat.le_of_ble_eq_true rfl) dX6_reclaimableWithout_19 ⟨(Nat.le_of_ble_eq_true rfl), (Nat.le_of_ble_eq_true rfl)⟩ rfl (fun n19 ce q9 H locs hP hS hce hcv hcl => ?_) (fun c19 H locs hP hS => ?_)
      · replace h := az_neg n19 h
        have hP : va_P g.1 az_cl (az_w6 g ax an au V Y) _ := hP
        have hD : va_D A (az_w6 g ax an au V Y) := hD
        rw [← Option.some.inj h]
        exact az_outT n19 hex hlocks hce hcv hcl hK hP hD hS (Nat.le_of_ble_eq_true rfl) (Nat.le_of_ble_eq_true rfl)
      replace h := az_pos c19 h
      refine lv_aload_n hx hb dX6_reclaimableWithout_22 rfl (lv_at hl 0 rfl) ?_
      refine va_get (D := g.1) (ci := 6) (v := .ref (an 0)) (C := RX6) (T := TX6) (N := 3) hx hb hts inX6_reclaimableWithout_RX6 hown hK hP 0 rfl rfl 0 (Nat.le_of_ble_eq_true rfl) (hts _ (List.mem_of_getElem? (i := 1) rfl)) (fun _ h9 => h9) rfl dX6_reclaimableWithout_23 ?_
      refine lv_iload_n hx hb dX6_reclaimableWithout_26 rfl (lv_at hl 1 rfl) ?_
      obtain ⟨o27, hc27, h⟩ := az_bnd h
      refine az_callPi (w2 := az_w6 g ax an au V Y) (As := [.int x1]) (rest := []) ⟨hx, hb, hml, hown, hts⟩ hl.1 (kX5_reclaimableIfGone l g an V x1 o27 hc27) (cwV 1 hts gX6_reclaimableWithout_X5_reclaimableIfGone rfl rfl rfl (by decide +kernel) ⟨(Nat.le_of_ble_eq_true rfl), (Nat.le_of_ble_eq_true rfl)⟩) rfl hK hP hD hS hA (az_pm (az_x ax an au :: (az_cV g an V).take 0) (az_cV g an V) ((az_cV g an V).drop 20 ++ Y)) (az_pm (az_x ax an au :: (az_cV g an V).take 0) (az_cV g an V) ((az_cV g an V).drop 20 ++ Y)).symm 0 rfl rfl rfl (Nat.le_of_ble_eq_true rfl) dX6_reclaimableWithout_27 ⟨(Nat.le_of_ble_eq_true rfl), (Nat.le_of_ble_eq_true rfl)⟩ rfl (fun H locs hP hD hS => ?_)
      have hP : va_P g.1 az_cl (az_w6 g ax an au V Y) _ := hP
      have hD : va_D A (az_w6 g ax an au V Y) := hD
      have hP : va_P g.1 az_cl (az_w6 g ax an au V Y) _ := hP
      have hD : va_D A (az_w6 g ax an au V Y) := hD
      rw [← Option.some.inj h]
      exact az_iretT hx hb hr hlocks hK hP hD hS dX6_reclaimableWithout_30 (Nat.le_of_ble_eq_true rfl) (Nat.le_of_ble_eq_true rfl)
    · replace h := az_neg c11 h
      refine lv_iconst (v := (1 : Int32)) hx hb dX6_reclaimableWithout_14 (by decide) ?_
      refine lv_goto (tgt := 19) hx hb dX6_reclaimableWithout_15 (by decide) ?_
      obtain ⟨o19, hc19, h⟩ := az_bnd h
      refine az_callST (As := [.int (1 : Int32)]) (rest := []) ⟨hx, hb, hml, hown, hts⟩ hl.1 (kX6_checkIndex l hst g sa (1 : Int32) o19 hc19) (va_cwS 1 hts gX6_reclaimableWithout_X6_checkIndex rfl rfl rfl (by decide +kernel) ⟨(Nat.le_of_ble_eq_true rfl), (Nat.le_of_ble_eq_true rfl)⟩) rfl hK hcx hP hS hA (Nat.le_of_ble_eq_true rfl) dX6_reclaimableWithout_19 ⟨(Nat.le_of_ble_eq_true rfl), (Nat.le_of_ble_eq_true rfl)⟩ rfl (fun n19 ce q9 H locs hP hS hce hcv hcl => ?_) (fun c19 H locs hP hS => ?_)
      · replace h := az_neg n19 h
        have hP : va_P g.1 az_cl (az_w6 g ax an au V Y) _ := hP
        have hD : va_D A (az_w6 g ax an au V Y) := hD
        rw [← Option.some.inj h]
        exact az_outT n19 hex hlocks hce hcv hcl hK hP hD hS (Nat.le_of_ble_eq_true rfl) (Nat.le_of_ble_eq_true rfl)
      replace h := az_pos c19 h
      refine lv_aload_n hx hb dX6_reclaimableWithout_22 rfl (lv_at hl 0 rfl) ?_
      refine va_get (D := g.1) (ci := 6) (v := .ref (an 0)) (C := RX6) (T := TX6) (N := 3) hx hb hts inX6_reclaimableWithout_RX6 hown hK hP 0 rfl rfl 0 (Nat.le_of_ble_eq_true rfl) (hts _ (List.mem_of_getElem? (i := 1) rfl)) (fun _ h9 => h9) rfl dX6_reclaimableWithout_23 ?_
      refine lv_iload_n hx hb dX6_reclaimableWithout_26 rfl (lv_at hl 1 rfl) ?_
      obtain ⟨o27, hc27, h⟩ := az_bnd h
      refine az_callPi (w2 := az_w6 g ax an au V Y) (As := [.int x1]) (rest := []) ⟨hx, hb, hml, hown, hts⟩ hl.1 (kX5_reclaimableIfGone l g an V x1 o27 hc27) (cwV 1 hts gX6_reclaimableWithout_X5_reclaimableIfGone rfl rfl rfl (by decide +kernel) ⟨(Nat.le_of_ble_eq_true rfl), (Nat.le_of_ble_eq_true rfl)⟩) rfl hK hP hD hS hA (az_pm (az_x ax an au :: (az_cV g an V).take 0) (az_cV g an V) ((az_cV g an V).drop 20 ++ Y)) (az_pm (az_x ax an au :: (az_cV g an V).take 0) (az_cV g an V) ((az_cV g an V).drop 20 ++ Y)).symm 0 rfl rfl rfl (Nat.le_of_ble_eq_true rfl) dX6_reclaimableWithout_27 ⟨(Nat.le_of_ble_eq_true rfl), (Nat.le_of_ble_eq_true rfl)⟩ rfl (fun H locs hP hD hS => ?_)
      have hP : va_P g.1 az_cl (az_w6 g ax an au V Y) _ := hP
      have hD : va_D A (az_w6 g ax an au V Y) := hD
      have hP : va_P g.1 az_cl (az_w6 g ax an au V Y) _ := hP
      have hD : va_D A (az_w6 g ax an au V Y) := hD
      rw [← Option.some.inj h]
      exact az_iretT hx hb hr hlocks hK hP hD hS dX6_reclaimableWithout_30 (Nat.le_of_ble_eq_true rfl) (Nat.le_of_ble_eq_true rfl)

def FX6_costliestReader_L13 : Nat → az_St → Int32 → Int32 → Int32 → Option (Int32)
  | 0, _, _, _, _ => none
  | n + 1, V, y1, y2, y3 => if (6 : Int32) ≤ y3 then (some (y1)) else ((FX5_reclaimableIfGone V y3).bind (fun o24 => if o24 ≤ y2 then (FX6_costliestReader_L13 n V y1 y2 (y3 + (1 : Int32))) else (FX6_costliestReader_L13 n V y3 o24 (y3 + (1 : Int32)))))
theorem FX6_costliestReader_L13_s (n : Nat) (V : az_St) (y1 : Int32) (y2 : Int32) (y3 : Int32) : FX6_costliestReader_L13 (n + 1) V y1 y2 y3 = (if (6 : Int32) ≤ y3 then (some (y1)) else ((FX5_reclaimableIfGone V y3).bind (fun o24 => if o24 ≤ y2 then (FX6_costliestReader_L13 n V y1 y2 (y3 + (1 : Int32))) else (FX6_costliestReader_L13 n V y3 o24 (y3 + (1 : Int32)))))) := rfl
def FX6_costliestReader (V : az_St) : Option (Int32) := (FX5_reclaimableIfGone V (-1 : Int32)).bind (fun o7 => FX6_costliestReader_L13 az_fuel V (-1 : Int32) o7 (0 : Int32))
theorem inX6_costliestReader_RX6 : ∀ w ∈ wsX60, w ∈ wsX6_costliestReader := az_inr [40, 41, 42] (by decide +kernel)
set_option maxHeartbeats 4000000 in
set_option maxRecDepth 100000 in
theorem kX6_costliestReader (l : Launch) (g : az_G) (ax : Nat → Nat) (an : Nat → Nat) (au : Nat → Nat) (Y : va_W) (V : az_St) (o : Int32) (h : FX6_costliestReader V = some o) : az_I l yX6_costliestReader wsX6_costliestReader ({ frames := 4, cells := 0, slots := 0, locals := 88 } : Room) [.ref (ax 0)] g (az_w6 g ax an au V Y) o (az_w6 g ax an au V Y) := by
  refine az_body (cc := cX6_costliestReader) (maxL := 5) (ret := (some .int)) (Qc := fun A => az_QI g (az_w6 g ax an au V Y) o A) (by decide +kernel) rfl (Nat.le_of_ble_eq_true rfl) ?_
  intro p e s m args below meth c A hx hb hr hts hown hml hlocks hA hK hP hD hS ls hl
  have hl : lv_has ls 5 [(0, .ref (ax 0))] := hl
  unfold FX6_costliestReader at h
  have hL13 : ∀ (n : Nat) (y1 : Int32) (y2 : Int32) (y3 : Int32) (H : Heap) (locs : List Loc) (ls : Array Slot), FX6_costliestReader_L13 n V y1 y2 y3 = some o → va_P g.1 az_cl (az_w6 g ax an au V Y) H → va_D A (az_w6 g ax an au V Y) → va_S A s.heap H locs → lv_has ls 5 [(0, .ref (ax 0)), (1, .int y1), (2, .int y2), (3, .int y3)] → W p l e ({ frames := 4, cells := 0, slots := 0, locals := 88 } : Room) s m args below meth c H locs 0 0 (MQ below (az_QI g (az_w6 g ax an au V Y) o A) args s 0 0 A) (F0 m 13 ls []) := by
    intro n
    induction n with
    | zero => intro y1 y2 y3 H locs ls h; exact az_non h
    | succ n ih =>
      intro y1 y2 y3 H locs ls h hP hD hS hl
      rw [FX6_costliestReader_L13_s] at h
      refine lv_iload_n hx hb dX6_costliestReader_13 rfl (lv_at hl 3 rfl) ?_
      refine lv_bipush (v := (6 : Int32)) hx hb dX6_costliestReader_14 (by decide) ?_
      refine lv_icmp_ge (tgt := 46) hx hb dX6_costliestReader_16 (by decide) (fun c16 => ?_) (fun c16 => ?_)
      · replace h := az_pos c16 h
        refine lv_iload_n hx hb dX6_costliestReader_46 rfl (lv_at hl 1 rfl) ?_
        have hP : va_P g.1 az_cl (az_w6 g ax an au V Y) _ := hP
        have hD : va_D A (az_w6 g ax an au V Y) := hD
        rw [← Option.some.inj h]
        exact az_iret hx hb hr hlocks hK hP hD hS dX6_costliestReader_47
      · replace h := az_neg c16 h
        refine lv_aload_n hx hb dX6_costliestReader_19 rfl (lv_at hl 0 rfl) ?_
        refine va_get (D := g.1) (ci := 6) (v := .ref (an 0)) (C := RX6) (T := TX6) (N := 3) hx hb hts inX6_costliestReader_RX6 hown hK hP 0 rfl rfl 0 (Nat.le_of_ble_eq_true rfl) (hts _ (List.mem_of_getElem? (i := 1) rfl)) (fun _ h9 => h9) rfl dX6_costliestReader_20 ?_
        refine lv_iload_n hx hb dX6_costliestReader_23 rfl (lv_at hl 3 rfl) ?_
        obtain ⟨o24, hc24, h⟩ := az_bnd h
        refine az_callPi (w2 := az_w6 g ax an au V Y) (As := [.int y3]) (rest := []) ⟨hx, hb, hml, hown, hts⟩ hl.1 (kX5_reclaimableIfGone l g an V y3 o24 hc24) (cwV 1 hts gX6_costliestReader_X5_reclaimableIfGone rfl rfl rfl (by decide +kernel) ⟨(Nat.le_of_ble_eq_true rfl), (Nat.le_of_ble_eq_true rfl)⟩) rfl hK hP hD hS hA (az_pm (az_x ax an au :: (az_cV g an V).take 0) (az_cV g an V) ((az_cV g an V).drop 20 ++ Y)) (az_pm (az_x ax an au :: (az_cV g an V).take 0) (az_cV g an V) ((az_cV g an V).drop 20 ++ Y)).symm 0 rfl rfl rfl (Nat.le_of_ble_eq_true rfl) dX6_costliestReader_24 ⟨Nat.zero_le _, Nat.zero_le _⟩ rfl (fun H locs hP hD hS => ?_)
        have hP : va_P g.1 az_cl (az_w6 g ax an au V Y) _ := hP
        have hD : va_D A (az_w6 g ax an au V Y) := hD
        refine lv_istore (lv' := [(4, .int o24), (0, .ref (ax 0)), (1, .int y1), (2, .int y2), (3, .int y3)]) hx hb dX6_costliestReader_27 hl (by decide) rfl (fun ls hl => ?_)
        refine lv_iload hx hb dX6_costliestReader_29 (lv_at hl 0 rfl) ?_
        refine lv_iload_n hx hb dX6_costliestReader_31 rfl (lv_at hl 3 rfl) ?_
        refine lv_icmp_le (tgt := 40) hx hb dX6_costliestReader_32 (by decide) (fun c32 => ?_) (fun c32 => ?_)
        · replace h := az_pos c32 h
          refine lv_iinc (v := y3 + (1 : Int32)) (lv' := [(3, .int (y3 + (1 : Int32))), (4, .int o24), (0, .ref (ax 0)), (1, .int y1), (2, .int y2)]) hx hb dX6_costliestReader_40 hl (k := 4) rfl (rfl) (by decide) rfl (fun ls hl => ?_)
          refine lv_goto (tgt := 13) hx hb dX6_costliestReader_43 (by decide) ?_
          have hP : va_P g.1 az_cl (az_w6 g ax an au V Y) _ := hP
          have hD : va_D A (az_w6 g ax an au V Y) := hD
          exact ih y1 y2 (y3 + (1 : Int32)) _ _ ls h hP hD hS (lv_sub hl [2, 3, 4, 0] rfl)
        · replace h := az_neg c32 h
          refine lv_iload_n hx hb dX6_costliestReader_35 rfl (lv_at hl 4 rfl) ?_
          refine lv_istore_n (lv' := [(1, .int y3), (4, .int o24), (0, .ref (ax 0)), (2, .int y2), (3, .int y3)]) hx hb dX6_costliestReader_36 rfl hl (by decide) rfl (fun ls hl => ?_)
          refine lv_iload hx hb dX6_costliestReader_37 (lv_at hl 1 rfl) ?_
          refine lv_istore_n (lv' := [(2, .int o24), (1, .int y3), (4, .int o24), (0, .ref (ax 0)), (3, .int y3)]) hx hb dX6_costliestReader_39 rfl hl (by decide) rfl (fun ls hl => ?_)
          refine lv_iinc (v := y3 + (1 : Int32)) (lv' := [(3, .int (y3 + (1 : Int32))), (2, .int o24), (1, .int y3), (4, .int o24), (0, .ref (ax 0))]) hx hb dX6_costliestReader_40 hl (k := 4) rfl (rfl) (by decide) rfl (fun ls hl => ?_)
          refine lv_goto (tgt := 13) hx hb dX6_costliestReader_43 (by decide) ?_
          have hP : va_P g.1 az_cl (az_w6 g ax an au V Y) _ := hP
          have hD : va_D A (az_w6 g ax an au V Y) := hD
          exact ih y3 o24 (y3 + (1 : Int32)) _ _ ls h hP hD hS (lv_sub hl [4, 2, 1, 0] rfl)
  refine lv_iconst (v := (-1 : Int32)) hx hb dX6_costliestReader_0 (by decide) ?_
  refine lv_istore_n (lv' := [(1, .int (-1 : Int32)), (0, .ref (ax 0))]) hx hb dX6_costliestReader_1 rfl hl (by decide) rfl (fun ls hl => ?_)
  refine lv_aload_n hx hb dX6_costliestReader_2 rfl (lv_at hl 1 rfl) ?_
  refine va_get (D := g.1) (ci := 6) (v := .ref (an 0)) (C := RX6) (T := TX6) (N := 3) hx hb hts inX6_costliestReader_RX6 hown hK hP 0 rfl rfl 0 (Nat.le_of_ble_eq_true rfl) (hts _ (List.mem_of_getElem? (i := 1) rfl)) (fun _ h9 => h9) rfl dX6_costliestReader_3 ?_
  refine lv_iconst (v := (-1 : Int32)) hx hb dX6_costliestReader_6 (by decide) ?_
  obtain ⟨o7, hc7, h⟩ := az_bnd h
  refine az_callPi (w2 := az_w6 g ax an au V Y) (As := [.int (-1 : Int32)]) (rest := []) ⟨hx, hb, hml, hown, hts⟩ hl.1 (kX5_reclaimableIfGone l g an V (-1 : Int32) o7 hc7) (cwV 1 hts gX6_costliestReader_X5_reclaimableIfGone rfl rfl rfl (by decide +kernel) ⟨(Nat.le_of_ble_eq_true rfl), (Nat.le_of_ble_eq_true rfl)⟩) rfl hK hP hD hS hA (az_pm (az_x ax an au :: (az_cV g an V).take 0) (az_cV g an V) ((az_cV g an V).drop 20 ++ Y)) (az_pm (az_x ax an au :: (az_cV g an V).take 0) (az_cV g an V) ((az_cV g an V).drop 20 ++ Y)).symm 0 rfl rfl rfl (Nat.le_of_ble_eq_true rfl) dX6_costliestReader_7 ⟨Nat.zero_le _, Nat.zero_le _⟩ rfl (fun H locs hP hD hS => ?_)
  have hP : va_P g.1 az_cl (az_w6 g ax an au V Y) _ := hP
  have hD : va_D A (az_w6 g ax an au V Y) := hD
  refine lv_istore_n (lv' := [(2, .int o7), (1, .int (-1 : Int32)), (0, .ref (ax 0))]) hx hb dX6_costliestReader_10 rfl hl (by decide) rfl (fun ls hl => ?_)
  refine lv_iconst (v := (0 : Int32)) hx hb dX6_costliestReader_11 (by decide) ?_
  refine lv_istore_n (lv' := [(3, .int (0 : Int32)), (2, .int o7), (1, .int (-1 : Int32)), (0, .ref (ax 0))]) hx hb dX6_costliestReader_12 rfl hl (by decide) rfl (fun ls hl => ?_)
  have hP : va_P g.1 az_cl (az_w6 g ax an au V Y) _ := hP
  have hD : va_D A (az_w6 g ax an au V Y) := hD
  exact hL13 az_fuel (-1 : Int32) o7 (0 : Int32) _ _ ls h hP hD hS (lv_sub hl [3, 2, 1, 0] rfl)

def FX6_advance (V : az_St) (T : az_St) (S : Nat → az_St) (hs : Nat → Int32) : Option (Nat × Int32 × (Nat → az_St) × (Nat → Int32) × (Nat → Int32)) := (FX2_stalledMask V ((V 16) 1)).bind (fun o14 => if o14 = (0 : Int32) then ((FX6_checkState (1 : Int32)).bind (fun o25 => if o25 = 0 then ((FX1_save S hs V).bind (fun o36 => az_lt (upd (upd (V 16) 1 (((V 16) 1) + (1 : Int32))) 2 (upd (V 16) 1 (((V 16) 1) + (1 : Int32)) 3)) (fun u63 => some (0, u63 1, o36.1, u63, o36.2)))) else some (o25, (0 : Int32), S, (V 16), hs))) else ((FX6_checkState (0 : Int32)).bind (fun o25 => if o25 = 0 then ((FX1_save S hs V).bind (fun o36 => az_lt (upd (upd (V 16) 1 (((V 16) 1) + (1 : Int32))) 2 (upd (V 16) 1 (((V 16) 1) + (1 : Int32)) 3)) (fun u63 => some (0, u63 1, o36.1, u63, o36.2)))) else some (o25, (0 : Int32), S, (V 16), hs))))
theorem inX6_advance_RX5 : ∀ w ∈ wsX50, w ∈ wsX6_advance := az_inr [100, 101, 102, 103, 104, 105, 106, 107, 108, 109, 110] (by decide +kernel)
theorem inX6_advance_RX6 : ∀ w ∈ wsX60, w ∈ wsX6_advance := az_inr [97, 98, 99] (by decide +kernel)
set_option maxHeartbeats 4000000 in
set_option maxRecDepth 100000 in
theorem kX6_advance (l : Launch) (hst : l.stackTraces = false) (g : az_G) (sa : Nat → Nat) (ax : Nat → Nat) (an : Nat → Nat) (au : Nat → Nat) (aw : Nat → Nat → Nat) (V : az_St) (T : az_St) (S : Nat → az_St) (hs : Nat → Int32) (o : Nat × Int32 × (Nat → az_St) × (Nat → Int32) × (Nat → Int32)) (h : FX6_advance V T S hs = some o) : az_TI l yX6_advance wsX6_advance ({ frames := 7, cells := 1, slots := 6, locals := 164 } : Room) [.ref (ax 0)] g sa (az_w6 g ax an au V (az_cV g au T ++ az_cH g ax aw S hs)) o.1 o.2.1 (az_w6 g ax an au (va_up V 16 o.2.2.2.1) (az_cV g au T ++ az_cH g ax aw o.2.2.1 o.2.2.2.2)) 1 := by
  refine az_bodyT (cc := cX6_advance) (maxL := 1) (ret := (some .int)) (mc := 1) (ms := 6) (Qc := fun A => az_QTI g (az_w6 g ax an au (va_up V 16 o.2.2.2.1) (az_cV g au T ++ az_cH g ax aw o.2.2.1 o.2.2.2.2)) o.1 o.2.1 A) (XC := fun A => az_XT g (az_w6 g ax an au (va_up V 16 o.2.2.2.1) (az_cV g au T ++ az_cH g ax aw o.2.2.1 o.2.2.2.2)) o.1 A) (by decide +kernel) rfl (Nat.le_of_ble_eq_true rfl) ?_
  intro p e s m args below meth c A hx hb hr hts hown hml hlocks hex hcx hA hK hP hD hS ls hl
  have hl : lv_has ls 1 [(0, .ref (ax 0))] := hl
  unfold FX6_advance at h
  refine lv_aload_n hx hb dX6_advance_0 rfl (lv_at hl 0 rfl) ?_
  refine va_get (D := g.1) (ci := 6) (v := .ref (an 0)) (C := RX6) (T := TX6) (N := 3) hx hb hts inX6_advance_RX6 hown hK hP 0 rfl rfl 0 (Nat.le_of_ble_eq_true rfl) (hts _ (List.mem_of_getElem? (i := 1) rfl)) (fun _ h9 => h9) rfl dX6_advance_1 ?_
  refine va_get (D := g.1) (ci := 5) (v := .ref (an 13)) (C := RX5) (T := TX5) (N := 11) hx hb hts inX6_advance_RX5 hown hK hP 1 rfl rfl 2 (Nat.le_of_ble_eq_true rfl) (hts _ (List.mem_of_getElem? (i := 2) rfl)) (fun _ h9 => h9) rfl dX6_advance_4 ?_
  refine lv_aload_n hx hb dX6_advance_7 rfl (lv_at hl 0 rfl) ?_
  refine va_get (D := g.1) (ci := 6) (v := .ref (an 0)) (C := RX6) (T := TX6) (N := 3) hx hb hts inX6_advance_RX6 hown hK hP 0 rfl rfl 0 (Nat.le_of_ble_eq_true rfl) (hts _ (List.mem_of_getElem? (i := 1) rfl)) (fun _ h9 => h9) rfl dX6_advance_8 ?_
  refine va_get (D := g.1) (ci := 5) (v := .int ((V 16) 1)) (C := RX5) (T := TX5) (N := 11) hx hb hts inX6_advance_RX5 hown hK hP 1 rfl rfl 6 (Nat.le_of_ble_eq_true rfl) (hts _ (List.mem_of_getElem? (i := 3) rfl)) (fun _ h9 => h9) rfl dX6_advance_11 ?_
  obtain ⟨o14, hc14, h⟩ := az_bnd h
  refine az_callPi (w2 := az_w6 g ax an au V (az_cV g au T ++ az_cH g ax aw S hs)) (As := [.int ((V 16) 1)]) (rest := []) ⟨hx, hb, hml, hown, hts⟩ hl.1 (kX2_stalledMask l g an V ((V 16) 1) o14 hc14) (cwV 1 hts gX6_advance_X2_stalledMask rfl rfl rfl (by decide +kernel) ⟨(Nat.le_of_ble_eq_true rfl), (Nat.le_of_ble_eq_true rfl)⟩) rfl hK hP hD hS hA (az_pm (az_x ax an au :: (az_cV g an V).take 13) (az_cR g an V) ((az_cV g an V).drop 16 ++ (az_cV g au T ++ az_cH g ax aw S hs))) (az_pm (az_x ax an au :: (az_cV g an V).take 13) (az_cR g an V) ((az_cV g an V).drop 16 ++ (az_cV g au T ++ az_cH g ax aw S hs))).symm 0 rfl rfl rfl (Nat.le_of_ble_eq_true rfl) dX6_advance_14 ⟨(Nat.le_of_ble_eq_true rfl), (Nat.le_of_ble_eq_true rfl)⟩ rfl (fun H locs hP hD hS => ?_)
  have hP : va_P g.1 az_cl (az_w6 g ax an au V (az_cV g au T ++ az_cH g ax aw S hs)) _ := hP
  have hD : va_D A (az_w6 g ax an au V (az_cV g au T ++ az_cH g ax aw S hs)) := hD
  refine lv_if_ne (tgt := 24) hx hb dX6_advance_17 (by decide) (fun c17 => ?_) (fun c17 => ?_)
  · replace h := az_neg c17 h
    refine lv_iconst (v := (0 : Int32)) hx hb dX6_advance_24 (by decide) ?_
    obtain ⟨o25, hc25, h⟩ := az_bnd h
    refine az_callST (As := [.int (0 : Int32)]) (rest := []) ⟨hx, hb, hml, hown, hts⟩ hl.1 (kX6_checkState l hst g sa (0 : Int32) o25 hc25) (va_cwS 1 hts gX6_advance_X6_checkState rfl rfl rfl (by decide +kernel) ⟨(Nat.le_of_ble_eq_true rfl), (Nat.le_of_ble_eq_true rfl)⟩) rfl hK hcx hP hS hA (Nat.le_of_ble_eq_true rfl) dX6_advance_25 ⟨(Nat.le_of_ble_eq_true rfl), (Nat.le_of_ble_eq_true rfl)⟩ rfl (fun n25 ce q9 H locs hP hS hce hcv hcl => ?_) (fun c25 H locs hP hS => ?_)
    · replace h := az_neg n25 h
      have hP : va_P g.1 az_cl (az_w6 g ax an au (va_up V 16 (V 16)) (az_cV g au T ++ az_cH g ax aw S hs)) _ := hP
      have hD : va_D A (az_w6 g ax an au (va_up V 16 (V 16)) (az_cV g au T ++ az_cH g ax aw S hs)) := hD
      rw [← Option.some.inj h]
      exact az_outT n25 hex hlocks hce hcv hcl hK hP hD hS (Nat.le_of_ble_eq_true rfl) (Nat.le_of_ble_eq_true rfl)
    replace h := az_pos c25 h
    refine lv_aload_n hx hb dX6_advance_28 rfl (lv_at hl 0 rfl) ?_
    refine va_get (D := g.1) (ci := 6) (v := .ref (ax 1)) (C := RX6) (T := TX6) (N := 3) hx hb hts inX6_advance_RX6 hown hK hP 0 rfl rfl 2 (Nat.le_of_ble_eq_true rfl) (hts _ (List.mem_of_getElem? (i := 4) rfl)) (fun _ h9 => h9) rfl dX6_advance_29 ?_
    refine lv_aload_n hx hb dX6_advance_32 rfl (lv_at hl 0 rfl) ?_
    refine va_get (D := g.1) (ci := 6) (v := .ref (an 0)) (C := RX6) (T := TX6) (N := 3) hx hb hts inX6_advance_RX6 hown hK hP 0 rfl rfl 0 (Nat.le_of_ble_eq_true rfl) (hts _ (List.mem_of_getElem? (i := 1) rfl)) (fun _ h9 => h9) rfl dX6_advance_33 ?_
    obtain ⟨o36, hc36, h⟩ := az_bnd h
    refine az_callPv (w2 := az_w6 g ax an au V (az_cV g au T ++ az_cH g ax aw o36.1 o36.2)) (As := [.ref (an 0)]) (rest := []) ⟨hx, hb, hml, hown, hts⟩ hl.1 (kX1_save l g ax an aw S hs V o36 hc36) (cwV 1 hts gX6_advance_X1_save rfl rfl rfl (by decide +kernel) ⟨(Nat.le_of_ble_eq_true rfl), (Nat.le_of_ble_eq_true rfl)⟩) rfl hK hP hD hS hA (az_pH (az_x ax an au) (az_cV g an V) (az_cV g au T) (az_cH g ax aw S hs)) (az_pH (az_x ax an au) (az_cV g an V) (az_cV g au T) (az_cH g ax aw o36.1 o36.2)).symm 0 rfl rfl rfl (Nat.le_of_ble_eq_true rfl) dX6_advance_36 ⟨(Nat.le_of_ble_eq_true rfl), (Nat.le_of_ble_eq_true rfl)⟩ rfl (fun H locs hP hD hS => ?_)
    have hP : va_P g.1 az_cl (az_w6 g ax an au V (az_cV g au T ++ az_cH g ax aw o36.1 o36.2)) _ := hP
    have hD : va_D A (az_w6 g ax an au V (az_cV g au T ++ az_cH g ax aw o36.1 o36.2)) := hD
    refine lv_aload_n hx hb dX6_advance_39 rfl (lv_at hl 0 rfl) ?_
    refine va_get (D := g.1) (ci := 6) (v := .ref (an 0)) (C := RX6) (T := TX6) (N := 3) hx hb hts inX6_advance_RX6 hown hK hP 0 rfl rfl 0 (Nat.le_of_ble_eq_true rfl) (hts _ (List.mem_of_getElem? (i := 1) rfl)) (fun _ h9 => h9) rfl dX6_advance_40 ?_
    refine lv_dup hx hb dX6_advance_43 rfl ?_
    refine va_get (D := g.1) (ci := 5) (v := .int ((V 16) 1)) (C := RX5) (T := TX5) (N := 11) hx hb hts inX6_advance_RX5 hown hK hP 1 rfl rfl 6 (Nat.le_of_ble_eq_true rfl) (hts _ (List.mem_of_getElem? (i := 3) rfl)) (fun _ h9 => h9) rfl dX6_advance_44 ?_
    refine lv_iconst (v := (1 : Int32)) hx hb dX6_advance_47 (by decide) ?_
    refine lv_iadd hx hb dX6_advance_48 ?_
    refine va_put (D := g.1) (ci := 5) (v := .int (((V 16) 1) + (1 : Int32))) (ty := .int) (C := RX5) (T := TX5) (N := 11) hx hb hts inX6_advance_RX5 tyX5 tyX5_ok nmX5 hown hK hP hD hS 1 rfl rfl 6 (Nat.le_of_ble_eq_true rfl) (hts _ (List.mem_of_getElem? (i := 3) rfl)) (fun _ h9 => h9) rfl (by decide +kernel) rfl rfl (Nat.le_of_ble_eq_true rfl) dX6_advance_49 (fun H locs hP hD hS => ?_)
    have hP : va_P g.1 az_cl (az_w6 g ax an au (va_up V 16 (upd (V 16) 1 (((V 16) 1) + (1 : Int32)))) (az_cV g au T ++ az_cH g ax aw o36.1 o36.2)) _ := hP
    have hD : va_D A (az_w6 g ax an au (va_up V 16 (upd (V 16) 1 (((V 16) 1) + (1 : Int32)))) (az_cV g au T ++ az_cH g ax aw o36.1 o36.2)) := hD
    refine lv_aload_n hx hb dX6_advance_52 rfl (lv_at hl 0 rfl) ?_
    refine va_get (D := g.1) (ci := 6) (v := .ref (an 0)) (C := RX6) (T := TX6) (N := 3) hx hb hts inX6_advance_RX6 hown hK hP 0 rfl rfl 0 (Nat.le_of_ble_eq_true rfl) (hts _ (List.mem_of_getElem? (i := 1) rfl)) (fun _ h9 => h9) rfl dX6_advance_53 ?_
    refine lv_aload_n hx hb dX6_advance_56 rfl (lv_at hl 0 rfl) ?_
    refine va_get (D := g.1) (ci := 6) (v := .ref (an 0)) (C := RX6) (T := TX6) (N := 3) hx hb hts inX6_advance_RX6 hown hK hP 0 rfl rfl 0 (Nat.le_of_ble_eq_true rfl) (hts _ (List.mem_of_getElem? (i := 1) rfl)) (fun _ h9 => h9) rfl dX6_advance_57 ?_
    refine va_get (D := g.1) (ci := 5) (v := .int (upd (V 16) 1 (((V 16) 1) + (1 : Int32)) 3)) (C := RX5) (T := TX5) (N := 11) hx hb hts inX6_advance_RX5 hown hK hP 1 rfl rfl 8 (Nat.le_of_ble_eq_true rfl) (hts _ (List.mem_of_getElem? (i := 5) rfl)) (fun _ h9 => h9) rfl dX6_advance_60 ?_
    refine va_put (D := g.1) (ci := 5) (v := .int (upd (V 16) 1 (((V 16) 1) + (1 : Int32)) 3)) (ty := .int) (C := RX5) (T := TX5) (N := 11) hx hb hts inX6_advance_RX5 tyX5 tyX5_ok nmX5 hown hK hP hD hS 1 rfl rfl 7 (Nat.le_of_ble_eq_true rfl) (hts _ (List.mem_of_getElem? (i := 6) rfl)) (fun _ h9 => h9) rfl (by decide +kernel) rfl rfl (Nat.le_of_ble_eq_true rfl) dX6_advance_63 (fun H locs hP hD hS => ?_)
    obtain ⟨u63, e63⟩ : ∃ w : Nat → Int32, w = upd (upd (V 16) 1 (((V 16) 1) + (1 : Int32))) 2 (upd (V 16) 1 (((V 16) 1) + (1 : Int32)) 3) := ⟨_, rfl⟩
    have hP : va_P g.1 az_cl (az_w6 g ax an au (va_up V 16 u63) (az_cV g au T ++ az_cH g ax aw o36.1 o36.2)) H := by rw [e63]; exact hP
    have hD : va_D A (az_w6 g ax an au (va_up V 16 u63) (az_cV g au T ++ az_cH g ax aw o36.1 o36.2)) := by rw [e63]; exact hD
    replace h := az_let e63 h
    refine lv_aload_n hx hb dX6_advance_66 rfl (lv_at hl 0 rfl) ?_
    refine va_get (D := g.1) (ci := 6) (v := .ref (an 0)) (C := RX6) (T := TX6) (N := 3) hx hb hts inX6_advance_RX6 hown hK hP 0 rfl rfl 0 (Nat.le_of_ble_eq_true rfl) (hts _ (List.mem_of_getElem? (i := 1) rfl)) (fun _ h9 => h9) rfl dX6_advance_67 ?_
    refine va_get (D := g.1) (ci := 5) (v := .int (u63 1)) (C := RX5) (T := TX5) (N := 11) hx hb hts inX6_advance_RX5 hown hK hP 1 rfl rfl 6 (Nat.le_of_ble_eq_true rfl) (hts _ (List.mem_of_getElem? (i := 3) rfl)) (fun _ h9 => h9) rfl dX6_advance_70 ?_
    have hP : va_P g.1 az_cl (az_w6 g ax an au (va_up V 16 u63) (az_cV g au T ++ az_cH g ax aw o36.1 o36.2)) _ := hP
    have hD : va_D A (az_w6 g ax an au (va_up V 16 u63) (az_cV g au T ++ az_cH g ax aw o36.1 o36.2)) := hD
    rw [← Option.some.inj h]
    exact az_iretT hx hb hr hlocks hK hP hD hS dX6_advance_73 (Nat.le_of_ble_eq_true rfl) (Nat.le_of_ble_eq_true rfl)
  · replace h := az_pos c17 h
    refine lv_iconst (v := (1 : Int32)) hx hb dX6_advance_20 (by decide) ?_
    refine lv_goto (tgt := 25) hx hb dX6_advance_21 (by decide) ?_
    obtain ⟨o25, hc25, h⟩ := az_bnd h
    refine az_callST (As := [.int (1 : Int32)]) (rest := []) ⟨hx, hb, hml, hown, hts⟩ hl.1 (kX6_checkState l hst g sa (1 : Int32) o25 hc25) (va_cwS 1 hts gX6_advance_X6_checkState rfl rfl rfl (by decide +kernel) ⟨(Nat.le_of_ble_eq_true rfl), (Nat.le_of_ble_eq_true rfl)⟩) rfl hK hcx hP hS hA (Nat.le_of_ble_eq_true rfl) dX6_advance_25 ⟨(Nat.le_of_ble_eq_true rfl), (Nat.le_of_ble_eq_true rfl)⟩ rfl (fun n25 ce q9 H locs hP hS hce hcv hcl => ?_) (fun c25 H locs hP hS => ?_)
    · replace h := az_neg n25 h
      have hP : va_P g.1 az_cl (az_w6 g ax an au (va_up V 16 (V 16)) (az_cV g au T ++ az_cH g ax aw S hs)) _ := hP
      have hD : va_D A (az_w6 g ax an au (va_up V 16 (V 16)) (az_cV g au T ++ az_cH g ax aw S hs)) := hD
      rw [← Option.some.inj h]
      exact az_outT n25 hex hlocks hce hcv hcl hK hP hD hS (Nat.le_of_ble_eq_true rfl) (Nat.le_of_ble_eq_true rfl)
    replace h := az_pos c25 h
    refine lv_aload_n hx hb dX6_advance_28 rfl (lv_at hl 0 rfl) ?_
    refine va_get (D := g.1) (ci := 6) (v := .ref (ax 1)) (C := RX6) (T := TX6) (N := 3) hx hb hts inX6_advance_RX6 hown hK hP 0 rfl rfl 2 (Nat.le_of_ble_eq_true rfl) (hts _ (List.mem_of_getElem? (i := 4) rfl)) (fun _ h9 => h9) rfl dX6_advance_29 ?_
    refine lv_aload_n hx hb dX6_advance_32 rfl (lv_at hl 0 rfl) ?_
    refine va_get (D := g.1) (ci := 6) (v := .ref (an 0)) (C := RX6) (T := TX6) (N := 3) hx hb hts inX6_advance_RX6 hown hK hP 0 rfl rfl 0 (Nat.le_of_ble_eq_true rfl) (hts _ (List.mem_of_getElem? (i := 1) rfl)) (fun _ h9 => h9) rfl dX6_advance_33 ?_
    obtain ⟨o36, hc36, h⟩ := az_bnd h
    refine az_callPv (w2 := az_w6 g ax an au V (az_cV g au T ++ az_cH g ax aw o36.1 o36.2)) (As := [.ref (an 0)]) (rest := []) ⟨hx, hb, hml, hown, hts⟩ hl.1 (kX1_save l g ax an aw S hs V o36 hc36) (cwV 1 hts gX6_advance_X1_save rfl rfl rfl (by decide +kernel) ⟨(Nat.le_of_ble_eq_true rfl), (Nat.le_of_ble_eq_true rfl)⟩) rfl hK hP hD hS hA (az_pH (az_x ax an au) (az_cV g an V) (az_cV g au T) (az_cH g ax aw S hs)) (az_pH (az_x ax an au) (az_cV g an V) (az_cV g au T) (az_cH g ax aw o36.1 o36.2)).symm 0 rfl rfl rfl (Nat.le_of_ble_eq_true rfl) dX6_advance_36 ⟨(Nat.le_of_ble_eq_true rfl), (Nat.le_of_ble_eq_true rfl)⟩ rfl (fun H locs hP hD hS => ?_)
    have hP : va_P g.1 az_cl (az_w6 g ax an au V (az_cV g au T ++ az_cH g ax aw o36.1 o36.2)) _ := hP
    have hD : va_D A (az_w6 g ax an au V (az_cV g au T ++ az_cH g ax aw o36.1 o36.2)) := hD
    refine lv_aload_n hx hb dX6_advance_39 rfl (lv_at hl 0 rfl) ?_
    refine va_get (D := g.1) (ci := 6) (v := .ref (an 0)) (C := RX6) (T := TX6) (N := 3) hx hb hts inX6_advance_RX6 hown hK hP 0 rfl rfl 0 (Nat.le_of_ble_eq_true rfl) (hts _ (List.mem_of_getElem? (i := 1) rfl)) (fun _ h9 => h9) rfl dX6_advance_40 ?_
    refine lv_dup hx hb dX6_advance_43 rfl ?_
    refine va_get (D := g.1) (ci := 5) (v := .int ((V 16) 1)) (C := RX5) (T := TX5) (N := 11) hx hb hts inX6_advance_RX5 hown hK hP 1 rfl rfl 6 (Nat.le_of_ble_eq_true rfl) (hts _ (List.mem_of_getElem? (i := 3) rfl)) (fun _ h9 => h9) rfl dX6_advance_44 ?_
    refine lv_iconst (v := (1 : Int32)) hx hb dX6_advance_47 (by decide) ?_
    refine lv_iadd hx hb dX6_advance_48 ?_
    refine va_put (D := g.1) (ci := 5) (v := .int (((V 16) 1) + (1 : Int32))) (ty := .int) (C := RX5) (T := TX5) (N := 11) hx hb hts inX6_advance_RX5 tyX5 tyX5_ok nmX5 hown hK hP hD hS 1 rfl rfl 6 (Nat.le_of_ble_eq_true rfl) (hts _ (List.mem_of_getElem? (i := 3) rfl)) (fun _ h9 => h9) rfl (by decide +kernel) rfl rfl (Nat.le_of_ble_eq_true rfl) dX6_advance_49 (fun H locs hP hD hS => ?_)
    have hP : va_P g.1 az_cl (az_w6 g ax an au (va_up V 16 (upd (V 16) 1 (((V 16) 1) + (1 : Int32)))) (az_cV g au T ++ az_cH g ax aw o36.1 o36.2)) _ := hP
    have hD : va_D A (az_w6 g ax an au (va_up V 16 (upd (V 16) 1 (((V 16) 1) + (1 : Int32)))) (az_cV g au T ++ az_cH g ax aw o36.1 o36.2)) := hD
    refine lv_aload_n hx hb dX6_advance_52 rfl (lv_at hl 0 rfl) ?_
    refine va_get (D := g.1) (ci := 6) (v := .ref (an 0)) (C := RX6) (T := TX6) (N := 3) hx hb hts inX6_advance_RX6 hown hK hP 0 rfl rfl 0 (Nat.le_of_ble_eq_true rfl) (hts _ (List.mem_of_getElem? (i := 1) rfl)) (fun _ h9 => h9) rfl dX6_advance_53 ?_
    refine lv_aload_n hx hb dX6_advance_56 rfl (lv_at hl 0 rfl) ?_
    refine va_get (D := g.1) (ci := 6) (v := .ref (an 0)) (C := RX6) (T := TX6) (N := 3) hx hb hts inX6_advance_RX6 hown hK hP 0 rfl rfl 0 (Nat.le_of_ble_eq_true rfl) (hts _ (List.mem_of_getElem? (i := 1) rfl)) (fun _ h9 => h9) rfl dX6_advance_57 ?_
    refine va_get (D := g.1) (ci := 5) (v := .int (upd (V 16) 1 (((V 16) 1) + (1 : Int32)) 3)) (C := RX5) (T := TX5) (N := 11) hx hb hts inX6_advance_RX5 hown hK hP 1 rfl rfl 8 (Nat.le_of_ble_eq_true rfl) (hts _ (List.mem_of_getElem? (i := 5) rfl)) (fun _ h9 => h9) rfl dX6_advance_60 ?_
    refine va_put (D := g.1) (ci := 5) (v := .int (upd (V 16) 1 (((V 16) 1) + (1 : Int32)) 3)) (ty := .int) (C := RX5) (T := TX5) (N := 11) hx hb hts inX6_advance_RX5 tyX5 tyX5_ok nmX5 hown hK hP hD hS 1 rfl rfl 7 (Nat.le_of_ble_eq_true rfl) (hts _ (List.mem_of_getElem? (i := 6) rfl)) (fun _ h9 => h9) rfl (by decide +kernel) rfl rfl (Nat.le_of_ble_eq_true rfl) dX6_advance_63 (fun H locs hP hD hS => ?_)
    obtain ⟨u63, e63⟩ : ∃ w : Nat → Int32, w = upd (upd (V 16) 1 (((V 16) 1) + (1 : Int32))) 2 (upd (V 16) 1 (((V 16) 1) + (1 : Int32)) 3) := ⟨_, rfl⟩
    have hP : va_P g.1 az_cl (az_w6 g ax an au (va_up V 16 u63) (az_cV g au T ++ az_cH g ax aw o36.1 o36.2)) H := by rw [e63]; exact hP
    have hD : va_D A (az_w6 g ax an au (va_up V 16 u63) (az_cV g au T ++ az_cH g ax aw o36.1 o36.2)) := by rw [e63]; exact hD
    replace h := az_let e63 h
    refine lv_aload_n hx hb dX6_advance_66 rfl (lv_at hl 0 rfl) ?_
    refine va_get (D := g.1) (ci := 6) (v := .ref (an 0)) (C := RX6) (T := TX6) (N := 3) hx hb hts inX6_advance_RX6 hown hK hP 0 rfl rfl 0 (Nat.le_of_ble_eq_true rfl) (hts _ (List.mem_of_getElem? (i := 1) rfl)) (fun _ h9 => h9) rfl dX6_advance_67 ?_
    refine va_get (D := g.1) (ci := 5) (v := .int (u63 1)) (C := RX5) (T := TX5) (N := 11) hx hb hts inX6_advance_RX5 hown hK hP 1 rfl rfl 6 (Nat.le_of_ble_eq_true rfl) (hts _ (List.mem_of_getElem? (i := 3) rfl)) (fun _ h9 => h9) rfl dX6_advance_70 ?_
    have hP : va_P g.1 az_cl (az_w6 g ax an au (va_up V 16 u63) (az_cV g au T ++ az_cH g ax aw o36.1 o36.2)) _ := hP
    have hD : va_D A (az_w6 g ax an au (va_up V 16 u63) (az_cV g au T ++ az_cH g ax aw o36.1 o36.2)) := hD
    rw [← Option.some.inj h]
    exact az_iretT hx hb hr hlocks hK hP hD hS dX6_advance_73 (Nat.le_of_ble_eq_true rfl) (Nat.le_of_ble_eq_true rfl)

def FX6_pass (V : az_St) (T : az_St) (S : Nat → az_St) (hs : Nat → Int32) (x1 : Int32) : Option (Nat × Int32 × (Nat → az_St) × (Nat → Int32) × (Nat → Int32)) := (FX6_isBetween x1 (1 : Int32) (1000 : Int32)).bind (fun o5 => (FX6_checkArgument o5).bind (fun o8 => if o8 = 0 then (if (1000000 : Int32) < ((V 16) 3) + x1 then ((FX6_checkState (0 : Int32)).bind (fun o30 => if o30 = 0 then ((FX1_save S hs V).bind (fun o41 => some (0, upd (V 16) 3 (((V 16) 3) + x1) 3, o41.1, upd (V 16) 3 (((V 16) 3) + x1), o41.2))) else some (o30, (0 : Int32), S, (V 16), hs))) else ((FX6_checkState (1 : Int32)).bind (fun o30 => if o30 = 0 then ((FX1_save S hs V).bind (fun o41 => some (0, upd (V 16) 3 (((V 16) 3) + x1) 3, o41.1, upd (V 16) 3 (((V 16) 3) + x1), o41.2))) else some (o30, (0 : Int32), S, (V 16), hs)))) else some (o8, (0 : Int32), S, (V 16), hs)))
theorem inX6_pass_RX5 : ∀ w ∈ wsX50, w ∈ wsX6_pass := az_inr [94, 95, 96, 97, 98, 99, 100, 101, 102, 103, 104] (by decide +kernel)
theorem inX6_pass_RX6 : ∀ w ∈ wsX60, w ∈ wsX6_pass := az_inr [91, 92, 93] (by decide +kernel)
set_option maxHeartbeats 4000000 in
set_option maxRecDepth 100000 in
theorem kX6_pass (l : Launch) (hst : l.stackTraces = false) (g : az_G) (sa : Nat → Nat) (ax : Nat → Nat) (an : Nat → Nat) (au : Nat → Nat) (aw : Nat → Nat → Nat) (V : az_St) (T : az_St) (S : Nat → az_St) (hs : Nat → Int32) (x1 : Int32) (o : Nat × Int32 × (Nat → az_St) × (Nat → Int32) × (Nat → Int32)) (h : FX6_pass V T S hs x1 = some o) : az_TI l yX6_pass wsX6_pass ({ frames := 7, cells := 2, slots := 12, locals := 164 } : Room) [.ref (ax 0), .int x1] g sa (az_w6 g ax an au V (az_cV g au T ++ az_cH g ax aw S hs)) o.1 o.2.1 (az_w6 g ax an au (va_up V 16 o.2.2.2.1) (az_cV g au T ++ az_cH g ax aw o.2.2.1 o.2.2.2.2)) 2 := by
  refine az_bodyT (cc := cX6_pass) (maxL := 2) (ret := (some .int)) (mc := 2) (ms := 12) (Qc := fun A => az_QTI g (az_w6 g ax an au (va_up V 16 o.2.2.2.1) (az_cV g au T ++ az_cH g ax aw o.2.2.1 o.2.2.2.2)) o.1 o.2.1 A) (XC := fun A => az_XT g (az_w6 g ax an au (va_up V 16 o.2.2.2.1) (az_cV g au T ++ az_cH g ax aw o.2.2.1 o.2.2.2.2)) o.1 A) (by decide +kernel) rfl (Nat.le_of_ble_eq_true rfl) ?_
  intro p e s m args below meth c A hx hb hr hts hown hml hlocks hex hcx hA hK hP hD hS ls hl
  have hl : lv_has ls 2 [(0, .ref (ax 0)), (1, .int x1)] := hl
  unfold FX6_pass at h
  refine lv_iload_n hx hb dX6_pass_0 rfl (lv_at hl 1 rfl) ?_
  refine lv_iconst (v := (1 : Int32)) hx hb dX6_pass_1 (by decide) ?_
  refine lv_sipush (v := (1000 : Int32)) hx hb dX6_pass_2 (by decide) ?_
  obtain ⟨o5, hc5, h⟩ := az_bnd h
  refine az_callS0 (As := [.int x1, .int (1 : Int32), .int (1000 : Int32)]) (rest := []) ⟨hx, hb, hml, hown, hts⟩ hl.1 (kX6_isBetween l g x1 (1 : Int32) (1000 : Int32) o5 hc5) (va_cwS 3 hts gX6_pass_X6_isBetween rfl rfl rfl (by decide +kernel) ⟨(Nat.le_of_ble_eq_true rfl), (Nat.le_of_ble_eq_true rfl)⟩) rfl hK hP hS hA (Nat.le_of_ble_eq_true rfl) dX6_pass_5 ⟨(Nat.le_of_ble_eq_true rfl), (Nat.le_of_ble_eq_true rfl)⟩ rfl (fun H locs hP hS => ?_)
  obtain ⟨o8, hc8, h⟩ := az_bnd h
  refine az_callST (As := [.int o5]) (rest := []) ⟨hx, hb, hml, hown, hts⟩ hl.1 (kX6_checkArgument l hst g sa o5 o8 hc8) (va_cwS 1 hts gX6_pass_X6_checkArgument rfl rfl rfl (by decide +kernel) ⟨(Nat.le_of_ble_eq_true rfl), (Nat.le_of_ble_eq_true rfl)⟩) rfl hK hcx hP hS hA (Nat.le_of_ble_eq_true rfl) dX6_pass_8 ⟨(Nat.le_of_ble_eq_true rfl), (Nat.le_of_ble_eq_true rfl)⟩ rfl (fun n8 ce q9 H locs hP hS hce hcv hcl => ?_) (fun c8 H locs hP hS => ?_)
  · replace h := az_neg n8 h
    have hP : va_P g.1 az_cl (az_w6 g ax an au (va_up V 16 (V 16)) (az_cV g au T ++ az_cH g ax aw S hs)) _ := hP
    have hD : va_D A (az_w6 g ax an au (va_up V 16 (V 16)) (az_cV g au T ++ az_cH g ax aw S hs)) := hD
    rw [← Option.some.inj h]
    exact az_outT n8 hex hlocks hce hcv hcl hK hP hD hS (Nat.le_of_ble_eq_true rfl) (Nat.le_of_ble_eq_true rfl)
  replace h := az_pos c8 h
  refine lv_aload_n hx hb dX6_pass_11 rfl (lv_at hl 0 rfl) ?_
  refine va_get (D := g.1) (ci := 6) (v := .ref (an 0)) (C := RX6) (T := TX6) (N := 3) hx hb hts inX6_pass_RX6 hown hK hP 0 rfl rfl 0 (Nat.le_of_ble_eq_true rfl) (hts _ (List.mem_of_getElem? (i := 1) rfl)) (fun _ h9 => h9) rfl dX6_pass_12 ?_
  refine va_get (D := g.1) (ci := 5) (v := .int ((V 16) 3)) (C := RX5) (T := TX5) (N := 11) hx hb hts inX6_pass_RX5 hown hK hP 1 rfl rfl 8 (Nat.le_of_ble_eq_true rfl) (hts _ (List.mem_of_getElem? (i := 2) rfl)) (fun _ h9 => h9) rfl dX6_pass_15 ?_
  refine lv_iload_n hx hb dX6_pass_18 rfl (lv_at hl 1 rfl) ?_
  refine lv_iadd hx hb dX6_pass_19 ?_
  refine lv_ldc (v := (1000000 : Int32)) hx hb hown (hts _ (List.mem_of_getElem? (i := 3) rfl)) dX6_pass_20 ?_
  refine lv_icmp_gt (tgt := 29) hx hb dX6_pass_22 (by decide) (fun c22 => ?_) (fun c22 => ?_)
  · replace h := az_pos c22 h
    refine lv_iconst (v := (0 : Int32)) hx hb dX6_pass_29 (by decide) ?_
    obtain ⟨o30, hc30, h⟩ := az_bnd h
    refine az_callST (As := [.int (0 : Int32)]) (rest := []) ⟨hx, hb, hml, hown, hts⟩ hl.1 (kX6_checkState l hst g sa (0 : Int32) o30 hc30) (va_cwS 1 hts gX6_pass_X6_checkState rfl rfl rfl (by decide +kernel) ⟨(Nat.le_of_ble_eq_true rfl), (Nat.le_of_ble_eq_true rfl)⟩) rfl hK hcx hP hS hA (Nat.le_of_ble_eq_true rfl) dX6_pass_30 ⟨(Nat.le_of_ble_eq_true rfl), (Nat.le_of_ble_eq_true rfl)⟩ rfl (fun n30 ce q9 H locs hP hS hce hcv hcl => ?_) (fun c30 H locs hP hS => ?_)
    · replace h := az_neg n30 h
      have hP : va_P g.1 az_cl (az_w6 g ax an au (va_up V 16 (V 16)) (az_cV g au T ++ az_cH g ax aw S hs)) _ := hP
      have hD : va_D A (az_w6 g ax an au (va_up V 16 (V 16)) (az_cV g au T ++ az_cH g ax aw S hs)) := hD
      rw [← Option.some.inj h]
      exact az_outT n30 hex hlocks hce hcv hcl hK hP hD hS (Nat.le_of_ble_eq_true rfl) (Nat.le_of_ble_eq_true rfl)
    replace h := az_pos c30 h
    refine lv_aload_n hx hb dX6_pass_33 rfl (lv_at hl 0 rfl) ?_
    refine va_get (D := g.1) (ci := 6) (v := .ref (ax 1)) (C := RX6) (T := TX6) (N := 3) hx hb hts inX6_pass_RX6 hown hK hP 0 rfl rfl 2 (Nat.le_of_ble_eq_true rfl) (hts _ (List.mem_of_getElem? (i := 4) rfl)) (fun _ h9 => h9) rfl dX6_pass_34 ?_
    refine lv_aload_n hx hb dX6_pass_37 rfl (lv_at hl 0 rfl) ?_
    refine va_get (D := g.1) (ci := 6) (v := .ref (an 0)) (C := RX6) (T := TX6) (N := 3) hx hb hts inX6_pass_RX6 hown hK hP 0 rfl rfl 0 (Nat.le_of_ble_eq_true rfl) (hts _ (List.mem_of_getElem? (i := 1) rfl)) (fun _ h9 => h9) rfl dX6_pass_38 ?_
    obtain ⟨o41, hc41, h⟩ := az_bnd h
    refine az_callPv (w2 := az_w6 g ax an au V (az_cV g au T ++ az_cH g ax aw o41.1 o41.2)) (As := [.ref (an 0)]) (rest := []) ⟨hx, hb, hml, hown, hts⟩ hl.1 (kX1_save l g ax an aw S hs V o41 hc41) (cwV 1 hts gX6_pass_X1_save rfl rfl rfl (by decide +kernel) ⟨(Nat.le_of_ble_eq_true rfl), (Nat.le_of_ble_eq_true rfl)⟩) rfl hK hP hD hS hA (az_pH (az_x ax an au) (az_cV g an V) (az_cV g au T) (az_cH g ax aw S hs)) (az_pH (az_x ax an au) (az_cV g an V) (az_cV g au T) (az_cH g ax aw o41.1 o41.2)).symm 0 rfl rfl rfl (Nat.le_of_ble_eq_true rfl) dX6_pass_41 ⟨(Nat.le_of_ble_eq_true rfl), (Nat.le_of_ble_eq_true rfl)⟩ rfl (fun H locs hP hD hS => ?_)
    have hP : va_P g.1 az_cl (az_w6 g ax an au V (az_cV g au T ++ az_cH g ax aw o41.1 o41.2)) _ := hP
    have hD : va_D A (az_w6 g ax an au V (az_cV g au T ++ az_cH g ax aw o41.1 o41.2)) := hD
    refine lv_aload_n hx hb dX6_pass_44 rfl (lv_at hl 0 rfl) ?_
    refine va_get (D := g.1) (ci := 6) (v := .ref (an 0)) (C := RX6) (T := TX6) (N := 3) hx hb hts inX6_pass_RX6 hown hK hP 0 rfl rfl 0 (Nat.le_of_ble_eq_true rfl) (hts _ (List.mem_of_getElem? (i := 1) rfl)) (fun _ h9 => h9) rfl dX6_pass_45 ?_
    refine lv_dup hx hb dX6_pass_48 rfl ?_
    refine va_get (D := g.1) (ci := 5) (v := .int ((V 16) 3)) (C := RX5) (T := TX5) (N := 11) hx hb hts inX6_pass_RX5 hown hK hP 1 rfl rfl 8 (Nat.le_of_ble_eq_true rfl) (hts _ (List.mem_of_getElem? (i := 2) rfl)) (fun _ h9 => h9) rfl dX6_pass_49 ?_
    refine lv_iload_n hx hb dX6_pass_52 rfl (lv_at hl 1 rfl) ?_
    refine lv_iadd hx hb dX6_pass_53 ?_
    refine va_put (D := g.1) (ci := 5) (v := .int (((V 16) 3) + x1)) (ty := .int) (C := RX5) (T := TX5) (N := 11) hx hb hts inX6_pass_RX5 tyX5 tyX5_ok nmX5 hown hK hP hD hS 1 rfl rfl 8 (Nat.le_of_ble_eq_true rfl) (hts _ (List.mem_of_getElem? (i := 2) rfl)) (fun _ h9 => h9) rfl (by decide +kernel) rfl rfl (Nat.le_of_ble_eq_true rfl) dX6_pass_54 (fun H locs hP hD hS => ?_)
    have hP : va_P g.1 az_cl (az_w6 g ax an au (va_up V 16 (upd (V 16) 3 (((V 16) 3) + x1))) (az_cV g au T ++ az_cH g ax aw o41.1 o41.2)) _ := hP
    have hD : va_D A (az_w6 g ax an au (va_up V 16 (upd (V 16) 3 (((V 16) 3) + x1))) (az_cV g au T ++ az_cH g ax aw o41.1 o41.2)) := hD
    refine lv_aload_n hx hb dX6_pass_57 rfl (lv_at hl 0 rfl) ?_
    refine va_get (D := g.1) (ci := 6) (v := .ref (an 0)) (C := RX6) (T := TX6) (N := 3) hx hb hts inX6_pass_RX6 hown hK hP 0 rfl rfl 0 (Nat.le_of_ble_eq_true rfl) (hts _ (List.mem_of_getElem? (i := 1) rfl)) (fun _ h9 => h9) rfl dX6_pass_58 ?_
    refine va_get (D := g.1) (ci := 5) (v := .int (upd (V 16) 3 (((V 16) 3) + x1) 3)) (C := RX5) (T := TX5) (N := 11) hx hb hts inX6_pass_RX5 hown hK hP 1 rfl rfl 8 (Nat.le_of_ble_eq_true rfl) (hts _ (List.mem_of_getElem? (i := 2) rfl)) (fun _ h9 => h9) rfl dX6_pass_61 ?_
    have hP : va_P g.1 az_cl (az_w6 g ax an au (va_up V 16 (upd (V 16) 3 (((V 16) 3) + x1))) (az_cV g au T ++ az_cH g ax aw o41.1 o41.2)) _ := hP
    have hD : va_D A (az_w6 g ax an au (va_up V 16 (upd (V 16) 3 (((V 16) 3) + x1))) (az_cV g au T ++ az_cH g ax aw o41.1 o41.2)) := hD
    rw [← Option.some.inj h]
    exact az_iretT hx hb hr hlocks hK hP hD hS dX6_pass_64 (Nat.le_of_ble_eq_true rfl) (Nat.le_of_ble_eq_true rfl)
  · replace h := az_neg c22 h
    refine lv_iconst (v := (1 : Int32)) hx hb dX6_pass_25 (by decide) ?_
    refine lv_goto (tgt := 30) hx hb dX6_pass_26 (by decide) ?_
    obtain ⟨o30, hc30, h⟩ := az_bnd h
    refine az_callST (As := [.int (1 : Int32)]) (rest := []) ⟨hx, hb, hml, hown, hts⟩ hl.1 (kX6_checkState l hst g sa (1 : Int32) o30 hc30) (va_cwS 1 hts gX6_pass_X6_checkState rfl rfl rfl (by decide +kernel) ⟨(Nat.le_of_ble_eq_true rfl), (Nat.le_of_ble_eq_true rfl)⟩) rfl hK hcx hP hS hA (Nat.le_of_ble_eq_true rfl) dX6_pass_30 ⟨(Nat.le_of_ble_eq_true rfl), (Nat.le_of_ble_eq_true rfl)⟩ rfl (fun n30 ce q9 H locs hP hS hce hcv hcl => ?_) (fun c30 H locs hP hS => ?_)
    · replace h := az_neg n30 h
      have hP : va_P g.1 az_cl (az_w6 g ax an au (va_up V 16 (V 16)) (az_cV g au T ++ az_cH g ax aw S hs)) _ := hP
      have hD : va_D A (az_w6 g ax an au (va_up V 16 (V 16)) (az_cV g au T ++ az_cH g ax aw S hs)) := hD
      rw [← Option.some.inj h]
      exact az_outT n30 hex hlocks hce hcv hcl hK hP hD hS (Nat.le_of_ble_eq_true rfl) (Nat.le_of_ble_eq_true rfl)
    replace h := az_pos c30 h
    refine lv_aload_n hx hb dX6_pass_33 rfl (lv_at hl 0 rfl) ?_
    refine va_get (D := g.1) (ci := 6) (v := .ref (ax 1)) (C := RX6) (T := TX6) (N := 3) hx hb hts inX6_pass_RX6 hown hK hP 0 rfl rfl 2 (Nat.le_of_ble_eq_true rfl) (hts _ (List.mem_of_getElem? (i := 4) rfl)) (fun _ h9 => h9) rfl dX6_pass_34 ?_
    refine lv_aload_n hx hb dX6_pass_37 rfl (lv_at hl 0 rfl) ?_
    refine va_get (D := g.1) (ci := 6) (v := .ref (an 0)) (C := RX6) (T := TX6) (N := 3) hx hb hts inX6_pass_RX6 hown hK hP 0 rfl rfl 0 (Nat.le_of_ble_eq_true rfl) (hts _ (List.mem_of_getElem? (i := 1) rfl)) (fun _ h9 => h9) rfl dX6_pass_38 ?_
    obtain ⟨o41, hc41, h⟩ := az_bnd h
    refine az_callPv (w2 := az_w6 g ax an au V (az_cV g au T ++ az_cH g ax aw o41.1 o41.2)) (As := [.ref (an 0)]) (rest := []) ⟨hx, hb, hml, hown, hts⟩ hl.1 (kX1_save l g ax an aw S hs V o41 hc41) (cwV 1 hts gX6_pass_X1_save rfl rfl rfl (by decide +kernel) ⟨(Nat.le_of_ble_eq_true rfl), (Nat.le_of_ble_eq_true rfl)⟩) rfl hK hP hD hS hA (az_pH (az_x ax an au) (az_cV g an V) (az_cV g au T) (az_cH g ax aw S hs)) (az_pH (az_x ax an au) (az_cV g an V) (az_cV g au T) (az_cH g ax aw o41.1 o41.2)).symm 0 rfl rfl rfl (Nat.le_of_ble_eq_true rfl) dX6_pass_41 ⟨(Nat.le_of_ble_eq_true rfl), (Nat.le_of_ble_eq_true rfl)⟩ rfl (fun H locs hP hD hS => ?_)
    have hP : va_P g.1 az_cl (az_w6 g ax an au V (az_cV g au T ++ az_cH g ax aw o41.1 o41.2)) _ := hP
    have hD : va_D A (az_w6 g ax an au V (az_cV g au T ++ az_cH g ax aw o41.1 o41.2)) := hD
    refine lv_aload_n hx hb dX6_pass_44 rfl (lv_at hl 0 rfl) ?_
    refine va_get (D := g.1) (ci := 6) (v := .ref (an 0)) (C := RX6) (T := TX6) (N := 3) hx hb hts inX6_pass_RX6 hown hK hP 0 rfl rfl 0 (Nat.le_of_ble_eq_true rfl) (hts _ (List.mem_of_getElem? (i := 1) rfl)) (fun _ h9 => h9) rfl dX6_pass_45 ?_
    refine lv_dup hx hb dX6_pass_48 rfl ?_
    refine va_get (D := g.1) (ci := 5) (v := .int ((V 16) 3)) (C := RX5) (T := TX5) (N := 11) hx hb hts inX6_pass_RX5 hown hK hP 1 rfl rfl 8 (Nat.le_of_ble_eq_true rfl) (hts _ (List.mem_of_getElem? (i := 2) rfl)) (fun _ h9 => h9) rfl dX6_pass_49 ?_
    refine lv_iload_n hx hb dX6_pass_52 rfl (lv_at hl 1 rfl) ?_
    refine lv_iadd hx hb dX6_pass_53 ?_
    refine va_put (D := g.1) (ci := 5) (v := .int (((V 16) 3) + x1)) (ty := .int) (C := RX5) (T := TX5) (N := 11) hx hb hts inX6_pass_RX5 tyX5 tyX5_ok nmX5 hown hK hP hD hS 1 rfl rfl 8 (Nat.le_of_ble_eq_true rfl) (hts _ (List.mem_of_getElem? (i := 2) rfl)) (fun _ h9 => h9) rfl (by decide +kernel) rfl rfl (Nat.le_of_ble_eq_true rfl) dX6_pass_54 (fun H locs hP hD hS => ?_)
    have hP : va_P g.1 az_cl (az_w6 g ax an au (va_up V 16 (upd (V 16) 3 (((V 16) 3) + x1))) (az_cV g au T ++ az_cH g ax aw o41.1 o41.2)) _ := hP
    have hD : va_D A (az_w6 g ax an au (va_up V 16 (upd (V 16) 3 (((V 16) 3) + x1))) (az_cV g au T ++ az_cH g ax aw o41.1 o41.2)) := hD
    refine lv_aload_n hx hb dX6_pass_57 rfl (lv_at hl 0 rfl) ?_
    refine va_get (D := g.1) (ci := 6) (v := .ref (an 0)) (C := RX6) (T := TX6) (N := 3) hx hb hts inX6_pass_RX6 hown hK hP 0 rfl rfl 0 (Nat.le_of_ble_eq_true rfl) (hts _ (List.mem_of_getElem? (i := 1) rfl)) (fun _ h9 => h9) rfl dX6_pass_58 ?_
    refine va_get (D := g.1) (ci := 5) (v := .int (upd (V 16) 3 (((V 16) 3) + x1) 3)) (C := RX5) (T := TX5) (N := 11) hx hb hts inX6_pass_RX5 hown hK hP 1 rfl rfl 8 (Nat.le_of_ble_eq_true rfl) (hts _ (List.mem_of_getElem? (i := 2) rfl)) (fun _ h9 => h9) rfl dX6_pass_61 ?_
    have hP : va_P g.1 az_cl (az_w6 g ax an au (va_up V 16 (upd (V 16) 3 (((V 16) 3) + x1))) (az_cV g au T ++ az_cH g ax aw o41.1 o41.2)) _ := hP
    have hD : va_D A (az_w6 g ax an au (va_up V 16 (upd (V 16) 3 (((V 16) 3) + x1))) (az_cV g au T ++ az_cH g ax aw o41.1 o41.2)) := hD
    rw [← Option.some.inj h]
    exact az_iretT hx hb hr hlocks hK hP hD hS dX6_pass_64 (Nat.le_of_ble_eq_true rfl) (Nat.le_of_ble_eq_true rfl)

def FX6_count (V : az_St) (x1 : Int32) : Option (Nat × Int32) := if x1 = (0 : Int32) then (some (0, (V 4) 0)) else (if x1 = (1 : Int32) then (some (0, (V 4) 1)) else (if x1 = (2 : Int32) then (some (0, (V 16) 0)) else (if x1 = (3 : Int32) then (some (0, (V 16) 1)) else (if x1 = (4 : Int32) then (some (0, (V 16) 3)) else (if x1 = (5 : Int32) then (some (0, (V 16) 2)) else (if x1 = (6 : Int32) then (some (0, (V 16) 4)) else (if x1 = (7 : Int32) then (some (0, (V 16) 5)) else (if x1 = (8 : Int32) then (some (0, (V 3) (0 : Int32).toNatClampNeg)) else (if x1 = (9 : Int32) then (some (0, (V 3) (1 : Int32).toNatClampNeg)) else (some (2, (0 : Int32))))))))))))
theorem inX6_count_RX3 : ∀ w ∈ wsX30, w ∈ wsX6_count := az_inr [28, 29, 30, 31, 32, 33] (by decide +kernel)
theorem inX6_count_RX5 : ∀ w ∈ wsX50, w ∈ wsX6_count := az_inr [17, 18, 19, 20, 21, 22, 23, 24, 25, 26, 27] (by decide +kernel)
theorem inX6_count_RX6 : ∀ w ∈ wsX60, w ∈ wsX6_count := az_inr [14, 15, 16] (by decide +kernel)
set_option maxHeartbeats 4000000 in
set_option maxRecDepth 100000 in
theorem kX6_count (l : Launch) (hst : l.stackTraces = false) (g : az_G) (sa : Nat → Nat) (ax : Nat → Nat) (an : Nat → Nat) (au : Nat → Nat) (Y : va_W) (V : az_St) (x1 : Int32) (o : Nat × Int32) (h : FX6_count V x1 = some o) : az_TI l yX6_count wsX6_count ({ frames := 6, cells := 1, slots := 6, locals := 100 } : Room) [.ref (ax 0), .int x1] g sa (az_w6 g ax an au V Y) o.1 o.2 (az_w6 g ax an au V Y) 1 := by
  refine az_bodyT (cc := cX6_count) (maxL := 2) (ret := (some .int)) (mc := 1) (ms := 6) (Qc := fun A => az_QTI g (az_w6 g ax an au V Y) o.1 o.2 A) (XC := fun A => az_XT g (az_w6 g ax an au V Y) o.1 A) (by decide +kernel) rfl (Nat.le_of_ble_eq_true rfl) ?_
  intro p e s m args below meth c A hx hb hr hts hown hml hlocks hex hcx hA hK hP hD hS ls hl
  have hl : lv_has ls 2 [(0, .ref (ax 0)), (1, .int x1)] := hl
  unfold FX6_count at h
  refine lv_iload_n hx hb dX6_count_0 rfl (lv_at hl 1 rfl) ?_
  by_cases c1_0 : x1 = (0 : Int32)
  · replace h := az_pos c1_0 h
    refine lv_tableIn (tgt := 56) (off := 55) hx hb dX6_count_1 (by rw [c1_0]; decide) (by rw [c1_0]; decide) (by rw [c1_0]; rfl) (by decide) ?_
    refine lv_aload_n hx hb dX6_count_56 rfl (lv_at hl 0 rfl) ?_
    refine va_get (D := g.1) (ci := 6) (v := .ref (an 0)) (C := RX6) (T := TX6) (N := 3) hx hb hts inX6_count_RX6 hown hK hP 0 rfl rfl 0 (Nat.le_of_ble_eq_true rfl) (hts _ (List.mem_of_getElem? (i := 3) rfl)) (fun _ h9 => h9) rfl dX6_count_57 ?_
    refine va_get (D := g.1) (ci := 5) (v := .ref (an 1)) (C := RX5) (T := TX5) (N := 11) hx hb hts inX6_count_RX5 hown hK hP 1 rfl rfl 0 (Nat.le_of_ble_eq_true rfl) (hts _ (List.mem_of_getElem? (i := 4) rfl)) (fun _ h9 => h9) rfl dX6_count_60 ?_
    refine va_get (D := g.1) (ci := 3) (v := .int ((V 4) 0)) (C := RX3) (T := TX3) (N := 6) hx hb hts inX6_count_RX3 hown hK hP 2 rfl rfl 4 (Nat.le_of_ble_eq_true rfl) (hts _ (List.mem_of_getElem? (i := 5) rfl)) (fun _ h9 => h9) rfl dX6_count_63 ?_
    have hP : va_P g.1 az_cl (az_w6 g ax an au V Y) _ := hP
    have hD : va_D A (az_w6 g ax an au V Y) := hD
    rw [← Option.some.inj h]
    exact az_iretT hx hb hr hlocks hK hP hD hS dX6_count_66 (Nat.le_of_ble_eq_true rfl) (Nat.le_of_ble_eq_true rfl)
  · replace h := az_neg c1_0 h
    by_cases c1_1 : x1 = (1 : Int32)
    · replace h := az_pos c1_1 h
      refine lv_tableIn (tgt := 67) (off := 66) hx hb dX6_count_1 (by rw [c1_1]; decide) (by rw [c1_1]; decide) (by rw [c1_1]; rfl) (by decide) ?_
      refine lv_aload_n hx hb dX6_count_67 rfl (lv_at hl 0 rfl) ?_
      refine va_get (D := g.1) (ci := 6) (v := .ref (an 0)) (C := RX6) (T := TX6) (N := 3) hx hb hts inX6_count_RX6 hown hK hP 0 rfl rfl 0 (Nat.le_of_ble_eq_true rfl) (hts _ (List.mem_of_getElem? (i := 3) rfl)) (fun _ h9 => h9) rfl dX6_count_68 ?_
      refine va_get (D := g.1) (ci := 5) (v := .ref (an 1)) (C := RX5) (T := TX5) (N := 11) hx hb hts inX6_count_RX5 hown hK hP 1 rfl rfl 0 (Nat.le_of_ble_eq_true rfl) (hts _ (List.mem_of_getElem? (i := 4) rfl)) (fun _ h9 => h9) rfl dX6_count_71 ?_
      refine va_get (D := g.1) (ci := 3) (v := .int ((V 4) 1)) (C := RX3) (T := TX3) (N := 6) hx hb hts inX6_count_RX3 hown hK hP 2 rfl rfl 5 (Nat.le_of_ble_eq_true rfl) (hts _ (List.mem_of_getElem? (i := 6) rfl)) (fun _ h9 => h9) rfl dX6_count_74 ?_
      have hP : va_P g.1 az_cl (az_w6 g ax an au V Y) _ := hP
      have hD : va_D A (az_w6 g ax an au V Y) := hD
      rw [← Option.some.inj h]
      exact az_iretT hx hb hr hlocks hK hP hD hS dX6_count_77 (Nat.le_of_ble_eq_true rfl) (Nat.le_of_ble_eq_true rfl)
    · replace h := az_neg c1_1 h
      by_cases c1_2 : x1 = (2 : Int32)
      · replace h := az_pos c1_2 h
        refine lv_tableIn (tgt := 78) (off := 77) hx hb dX6_count_1 (by rw [c1_2]; decide) (by rw [c1_2]; decide) (by rw [c1_2]; rfl) (by decide) ?_
        refine lv_aload_n hx hb dX6_count_78 rfl (lv_at hl 0 rfl) ?_
        refine va_get (D := g.1) (ci := 6) (v := .ref (an 0)) (C := RX6) (T := TX6) (N := 3) hx hb hts inX6_count_RX6 hown hK hP 0 rfl rfl 0 (Nat.le_of_ble_eq_true rfl) (hts _ (List.mem_of_getElem? (i := 3) rfl)) (fun _ h9 => h9) rfl dX6_count_79 ?_
        refine va_get (D := g.1) (ci := 5) (v := .int ((V 16) 0)) (C := RX5) (T := TX5) (N := 11) hx hb hts inX6_count_RX5 hown hK hP 1 rfl rfl 5 (Nat.le_of_ble_eq_true rfl) (hts _ (List.mem_of_getElem? (i := 7) rfl)) (fun _ h9 => h9) rfl dX6_count_82 ?_
        have hP : va_P g.1 az_cl (az_w6 g ax an au V Y) _ := hP
        have hD : va_D A (az_w6 g ax an au V Y) := hD
        rw [← Option.some.inj h]
        exact az_iretT hx hb hr hlocks hK hP hD hS dX6_count_85 (Nat.le_of_ble_eq_true rfl) (Nat.le_of_ble_eq_true rfl)
      · replace h := az_neg c1_2 h
        by_cases c1_3 : x1 = (3 : Int32)
        · replace h := az_pos c1_3 h
          refine lv_tableIn (tgt := 86) (off := 85) hx hb dX6_count_1 (by rw [c1_3]; decide) (by rw [c1_3]; decide) (by rw [c1_3]; rfl) (by decide) ?_
          refine lv_aload_n hx hb dX6_count_86 rfl (lv_at hl 0 rfl) ?_
          refine va_get (D := g.1) (ci := 6) (v := .ref (an 0)) (C := RX6) (T := TX6) (N := 3) hx hb hts inX6_count_RX6 hown hK hP 0 rfl rfl 0 (Nat.le_of_ble_eq_true rfl) (hts _ (List.mem_of_getElem? (i := 3) rfl)) (fun _ h9 => h9) rfl dX6_count_87 ?_
          refine va_get (D := g.1) (ci := 5) (v := .int ((V 16) 1)) (C := RX5) (T := TX5) (N := 11) hx hb hts inX6_count_RX5 hown hK hP 1 rfl rfl 6 (Nat.le_of_ble_eq_true rfl) (hts _ (List.mem_of_getElem? (i := 8) rfl)) (fun _ h9 => h9) rfl dX6_count_90 ?_
          have hP : va_P g.1 az_cl (az_w6 g ax an au V Y) _ := hP
          have hD : va_D A (az_w6 g ax an au V Y) := hD
          rw [← Option.some.inj h]
          exact az_iretT hx hb hr hlocks hK hP hD hS dX6_count_93 (Nat.le_of_ble_eq_true rfl) (Nat.le_of_ble_eq_true rfl)
        · replace h := az_neg c1_3 h
          by_cases c1_4 : x1 = (4 : Int32)
          · replace h := az_pos c1_4 h
            refine lv_tableIn (tgt := 94) (off := 93) hx hb dX6_count_1 (by rw [c1_4]; decide) (by rw [c1_4]; decide) (by rw [c1_4]; rfl) (by decide) ?_
            refine lv_aload_n hx hb dX6_count_94 rfl (lv_at hl 0 rfl) ?_
            refine va_get (D := g.1) (ci := 6) (v := .ref (an 0)) (C := RX6) (T := TX6) (N := 3) hx hb hts inX6_count_RX6 hown hK hP 0 rfl rfl 0 (Nat.le_of_ble_eq_true rfl) (hts _ (List.mem_of_getElem? (i := 3) rfl)) (fun _ h9 => h9) rfl dX6_count_95 ?_
            refine va_get (D := g.1) (ci := 5) (v := .int ((V 16) 3)) (C := RX5) (T := TX5) (N := 11) hx hb hts inX6_count_RX5 hown hK hP 1 rfl rfl 8 (Nat.le_of_ble_eq_true rfl) (hts _ (List.mem_of_getElem? (i := 9) rfl)) (fun _ h9 => h9) rfl dX6_count_98 ?_
            have hP : va_P g.1 az_cl (az_w6 g ax an au V Y) _ := hP
            have hD : va_D A (az_w6 g ax an au V Y) := hD
            rw [← Option.some.inj h]
            exact az_iretT hx hb hr hlocks hK hP hD hS dX6_count_101 (Nat.le_of_ble_eq_true rfl) (Nat.le_of_ble_eq_true rfl)
          · replace h := az_neg c1_4 h
            by_cases c1_5 : x1 = (5 : Int32)
            · replace h := az_pos c1_5 h
              refine lv_tableIn (tgt := 102) (off := 101) hx hb dX6_count_1 (by rw [c1_5]; decide) (by rw [c1_5]; decide) (by rw [c1_5]; rfl) (by decide) ?_
              refine lv_aload_n hx hb dX6_count_102 rfl (lv_at hl 0 rfl) ?_
              refine va_get (D := g.1) (ci := 6) (v := .ref (an 0)) (C := RX6) (T := TX6) (N := 3) hx hb hts inX6_count_RX6 hown hK hP 0 rfl rfl 0 (Nat.le_of_ble_eq_true rfl) (hts _ (List.mem_of_getElem? (i := 3) rfl)) (fun _ h9 => h9) rfl dX6_count_103 ?_
              refine va_get (D := g.1) (ci := 5) (v := .int ((V 16) 2)) (C := RX5) (T := TX5) (N := 11) hx hb hts inX6_count_RX5 hown hK hP 1 rfl rfl 7 (Nat.le_of_ble_eq_true rfl) (hts _ (List.mem_of_getElem? (i := 10) rfl)) (fun _ h9 => h9) rfl dX6_count_106 ?_
              have hP : va_P g.1 az_cl (az_w6 g ax an au V Y) _ := hP
              have hD : va_D A (az_w6 g ax an au V Y) := hD
              rw [← Option.some.inj h]
              exact az_iretT hx hb hr hlocks hK hP hD hS dX6_count_109 (Nat.le_of_ble_eq_true rfl) (Nat.le_of_ble_eq_true rfl)
            · replace h := az_neg c1_5 h
              by_cases c1_6 : x1 = (6 : Int32)
              · replace h := az_pos c1_6 h
                refine lv_tableIn (tgt := 110) (off := 109) hx hb dX6_count_1 (by rw [c1_6]; decide) (by rw [c1_6]; decide) (by rw [c1_6]; rfl) (by decide) ?_
                refine lv_aload_n hx hb dX6_count_110 rfl (lv_at hl 0 rfl) ?_
                refine va_get (D := g.1) (ci := 6) (v := .ref (an 0)) (C := RX6) (T := TX6) (N := 3) hx hb hts inX6_count_RX6 hown hK hP 0 rfl rfl 0 (Nat.le_of_ble_eq_true rfl) (hts _ (List.mem_of_getElem? (i := 3) rfl)) (fun _ h9 => h9) rfl dX6_count_111 ?_
                refine va_get (D := g.1) (ci := 5) (v := .int ((V 16) 4)) (C := RX5) (T := TX5) (N := 11) hx hb hts inX6_count_RX5 hown hK hP 1 rfl rfl 9 (Nat.le_of_ble_eq_true rfl) (hts _ (List.mem_of_getElem? (i := 11) rfl)) (fun _ h9 => h9) rfl dX6_count_114 ?_
                have hP : va_P g.1 az_cl (az_w6 g ax an au V Y) _ := hP
                have hD : va_D A (az_w6 g ax an au V Y) := hD
                rw [← Option.some.inj h]
                exact az_iretT hx hb hr hlocks hK hP hD hS dX6_count_117 (Nat.le_of_ble_eq_true rfl) (Nat.le_of_ble_eq_true rfl)
              · replace h := az_neg c1_6 h
                by_cases c1_7 : x1 = (7 : Int32)
                · replace h := az_pos c1_7 h
                  refine lv_tableIn (tgt := 118) (off := 117) hx hb dX6_count_1 (by rw [c1_7]; decide) (by rw [c1_7]; decide) (by rw [c1_7]; rfl) (by decide) ?_
                  refine lv_aload_n hx hb dX6_count_118 rfl (lv_at hl 0 rfl) ?_
                  refine va_get (D := g.1) (ci := 6) (v := .ref (an 0)) (C := RX6) (T := TX6) (N := 3) hx hb hts inX6_count_RX6 hown hK hP 0 rfl rfl 0 (Nat.le_of_ble_eq_true rfl) (hts _ (List.mem_of_getElem? (i := 3) rfl)) (fun _ h9 => h9) rfl dX6_count_119 ?_
                  refine va_get (D := g.1) (ci := 5) (v := .int ((V 16) 5)) (C := RX5) (T := TX5) (N := 11) hx hb hts inX6_count_RX5 hown hK hP 1 rfl rfl 10 (Nat.le_of_ble_eq_true rfl) (hts _ (List.mem_of_getElem? (i := 12) rfl)) (fun _ h9 => h9) rfl dX6_count_122 ?_
                  have hP : va_P g.1 az_cl (az_w6 g ax an au V Y) _ := hP
                  have hD : va_D A (az_w6 g ax an au V Y) := hD
                  rw [← Option.some.inj h]
                  exact az_iretT hx hb hr hlocks hK hP hD hS dX6_count_125 (Nat.le_of_ble_eq_true rfl) (Nat.le_of_ble_eq_true rfl)
                · replace h := az_neg c1_7 h
                  by_cases c1_8 : x1 = (8 : Int32)
                  · replace h := az_pos c1_8 h
                    refine lv_tableIn (tgt := 126) (off := 125) hx hb dX6_count_1 (by rw [c1_8]; decide) (by rw [c1_8]; decide) (by rw [c1_8]; rfl) (by decide) ?_
                    refine lv_aload_n hx hb dX6_count_126 rfl (lv_at hl 0 rfl) ?_
                    refine va_get (D := g.1) (ci := 6) (v := .ref (an 0)) (C := RX6) (T := TX6) (N := 3) hx hb hts inX6_count_RX6 hown hK hP 0 rfl rfl 0 (Nat.le_of_ble_eq_true rfl) (hts _ (List.mem_of_getElem? (i := 3) rfl)) (fun _ h9 => h9) rfl dX6_count_127 ?_
                    refine va_get (D := g.1) (ci := 5) (v := .ref (an 1)) (C := RX5) (T := TX5) (N := 11) hx hb hts inX6_count_RX5 hown hK hP 1 rfl rfl 0 (Nat.le_of_ble_eq_true rfl) (hts _ (List.mem_of_getElem? (i := 4) rfl)) (fun _ h9 => h9) rfl dX6_count_130 ?_
                    refine va_get (D := g.1) (ci := 3) (v := .ref (an 5)) (C := RX3) (T := TX3) (N := 6) hx hb hts inX6_count_RX3 hown hK hP 2 rfl rfl 3 (Nat.le_of_ble_eq_true rfl) (hts _ (List.mem_of_getElem? (i := 13) rfl)) (fun _ h9 => h9) rfl dX6_count_133 ?_
                    refine lv_iconst (v := (0 : Int32)) hx hb dX6_count_136 (by decide) ?_
                    refine va_iald (D := g.1) (f := (V 3)) hx hb hK hP 6 0 rfl rfl (az_vin (by decide +kernel)) dX6_count_137 ?_
                    have hP : va_P g.1 az_cl (az_w6 g ax an au V Y) _ := hP
                    have hD : va_D A (az_w6 g ax an au V Y) := hD
                    rw [← Option.some.inj h]
                    exact az_iretT hx hb hr hlocks hK hP hD hS dX6_count_138 (Nat.le_of_ble_eq_true rfl) (Nat.le_of_ble_eq_true rfl)
                  · replace h := az_neg c1_8 h
                    by_cases c1_9 : x1 = (9 : Int32)
                    · replace h := az_pos c1_9 h
                      refine lv_tableIn (tgt := 139) (off := 138) hx hb dX6_count_1 (by rw [c1_9]; decide) (by rw [c1_9]; decide) (by rw [c1_9]; rfl) (by decide) ?_
                      refine lv_aload_n hx hb dX6_count_139 rfl (lv_at hl 0 rfl) ?_
                      refine va_get (D := g.1) (ci := 6) (v := .ref (an 0)) (C := RX6) (T := TX6) (N := 3) hx hb hts inX6_count_RX6 hown hK hP 0 rfl rfl 0 (Nat.le_of_ble_eq_true rfl) (hts _ (List.mem_of_getElem? (i := 3) rfl)) (fun _ h9 => h9) rfl dX6_count_140 ?_
                      refine va_get (D := g.1) (ci := 5) (v := .ref (an 1)) (C := RX5) (T := TX5) (N := 11) hx hb hts inX6_count_RX5 hown hK hP 1 rfl rfl 0 (Nat.le_of_ble_eq_true rfl) (hts _ (List.mem_of_getElem? (i := 4) rfl)) (fun _ h9 => h9) rfl dX6_count_143 ?_
                      refine va_get (D := g.1) (ci := 3) (v := .ref (an 5)) (C := RX3) (T := TX3) (N := 6) hx hb hts inX6_count_RX3 hown hK hP 2 rfl rfl 3 (Nat.le_of_ble_eq_true rfl) (hts _ (List.mem_of_getElem? (i := 13) rfl)) (fun _ h9 => h9) rfl dX6_count_146 ?_
                      refine lv_iconst (v := (1 : Int32)) hx hb dX6_count_149 (by decide) ?_
                      refine va_iald (D := g.1) (f := (V 3)) hx hb hK hP 6 0 rfl rfl (az_vin (by decide +kernel)) dX6_count_150 ?_
                      have hP : va_P g.1 az_cl (az_w6 g ax an au V Y) _ := hP
                      have hD : va_D A (az_w6 g ax an au V Y) := hD
                      rw [← Option.some.inj h]
                      exact az_iretT hx hb hr hlocks hK hP hD hS dX6_count_151 (Nat.le_of_ble_eq_true rfl) (Nat.le_of_ble_eq_true rfl)
                    · replace h := az_neg c1_9 h
                      refine lv_tableOut (tgt := 152) hx hb dX6_count_1 (by have n0 := lv_neT (a := 0) c1_0 (by decide); have n1 := lv_neT (a := 1) c1_1 (by decide); have n2 := lv_neT (a := 2) c1_2 (by decide); have n3 := lv_neT (a := 3) c1_3 (by decide); have n4 := lv_neT (a := 4) c1_4 (by decide); have n5 := lv_neT (a := 5) c1_5 (by decide); have n6 := lv_neT (a := 6) c1_6 (by decide); have n7 := lv_neT (a := 7) c1_7 (by decide); have n8 := lv_neT (a := 8) c1_8 (by decide); have n9 := lv_neT (a := 9) c1_9 (by decide); omega) (by decide) ?_
                      have hP : va_P g.1 az_cl (az_w6 g ax an au V Y) _ := hP
                      have hD : va_D A (az_w6 g ax an au V Y) := hD
                      rw [← Option.some.inj h]
                      exact az_throwS (k := 2) (ws' := az_w6 g ax an au V Y) (by decide) rfl (by decide +kernel) hx hb hst hown (hcx.2.2.2.1 1) (hts _ (List.mem_of_getElem? (i := 1) rfl)) (hts _ (List.mem_of_getElem? (i := 2) rfl)) hts (fun _ h => List.mem_cons_of_mem _ (List.mem_append_right _ h)) thno_S_174 thgd_S_170_174 hcx hK hP hD hS (hl.1.trans hml.symm) dX6_count_152 dX6_count_155 dX6_count_156 dX6_count_158 dX6_count_161 hex (Nat.le_of_ble_eq_true rfl) (Nat.le_of_ble_eq_true rfl) (Nat.le_of_ble_eq_true rfl) (Nat.le_of_ble_eq_true rfl) hlocks (Nat.le_of_ble_eq_true rfl) (Nat.le_of_ble_eq_true rfl)

def FX6_blocks_L13 : Nat → az_St → Int32 → Int32 → Int32 → Option (Nat × Int32)
  | 0, _, _, _, _ => none
  | n + 1, V, x1, y2, y3 => if (V 4) 0 ≤ y3 then (some (0, y2)) else ((FX5_blocksIn V y3 x1).bind (fun o34 => FX6_blocks_L13 n V x1 (y2 + o34) (y3 + (1 : Int32))))
theorem FX6_blocks_L13_s (n : Nat) (V : az_St) (x1 : Int32) (y2 : Int32) (y3 : Int32) : FX6_blocks_L13 (n + 1) V x1 y2 y3 = (if (V 4) 0 ≤ y3 then (some (0, y2)) else ((FX5_blocksIn V y3 x1).bind (fun o34 => FX6_blocks_L13 n V x1 (y2 + o34) (y3 + (1 : Int32))))) := rfl
def FX6_blocks (V : az_St) (x1 : Int32) : Option (Nat × Int32) := (FX6_isBetween x1 (0 : Int32) (4 : Int32)).bind (fun o3 => (FX6_checkArgument o3).bind (fun o6 => if o6 = 0 then (FX6_blocks_L13 az_fuel V x1 (0 : Int32) (0 : Int32)) else some (o6, (0 : Int32))))
theorem inX6_blocks_RX3 : ∀ w ∈ wsX30, w ∈ wsX6_blocks := az_inr [41, 42, 43, 44, 45, 46] (by decide +kernel)
theorem inX6_blocks_RX5 : ∀ w ∈ wsX50, w ∈ wsX6_blocks := az_inr [30, 31, 32, 33, 34, 35, 36, 37, 38, 39, 40] (by decide +kernel)
theorem inX6_blocks_RX6 : ∀ w ∈ wsX60, w ∈ wsX6_blocks := az_inr [27, 28, 29] (by decide +kernel)
set_option maxHeartbeats 4000000 in
set_option maxRecDepth 100000 in
theorem kX6_blocks (l : Launch) (hst : l.stackTraces = false) (g : az_G) (sa : Nat → Nat) (ax : Nat → Nat) (an : Nat → Nat) (au : Nat → Nat) (Y : va_W) (V : az_St) (x1 : Int32) (o : Nat × Int32) (h : FX6_blocks V x1 = some o) : az_TI l yX6_blocks wsX6_blocks ({ frames := 7, cells := 1, slots := 6, locals := 120 } : Room) [.ref (ax 0), .int x1] g sa (az_w6 g ax an au V Y) o.1 o.2 (az_w6 g ax an au V Y) 1 := by
  refine az_bodyT (cc := cX6_blocks) (maxL := 4) (ret := (some .int)) (mc := 1) (ms := 6) (Qc := fun A => az_QTI g (az_w6 g ax an au V Y) o.1 o.2 A) (XC := fun A => az_XT g (az_w6 g ax an au V Y) o.1 A) (by decide +kernel) rfl (Nat.le_of_ble_eq_true rfl) ?_
  intro p e s m args below meth c A hx hb hr hts hown hml hlocks hex hcx hA hK hP hD hS ls hl
  have hl : lv_has ls 4 [(0, .ref (ax 0)), (1, .int x1)] := hl
  unfold FX6_blocks at h
  have hL13 : ∀ (n : Nat) (y2 : Int32) (y3 : Int32) (H : Heap) (locs : List Loc) (ls : Array Slot), FX6_blocks_L13 n V x1 y2 y3 = some o → va_P g.1 az_cl (az_w6 g ax an au V Y) H → va_D A (az_w6 g ax an au V Y) → va_S A s.heap H locs → lv_has ls 4 [(0, .ref (ax 0)), (1, .int x1), (2, .int y2), (3, .int y3)] → W p l e ({ frames := 7, cells := 1, slots := 6, locals := 120 } : Room) s m args below meth c H locs 1 6 (vx_MQ below (az_QTI g (az_w6 g ax an au V Y) o.1 o.2 A) (az_XT g (az_w6 g ax an au V Y) o.1 A) args s 1 6 A) (F0 m 13 ls []) := by
    intro n
    induction n with
    | zero => intro y2 y3 H locs ls h; exact az_non h
    | succ n ih =>
      intro y2 y3 H locs ls h hP hD hS hl
      rw [FX6_blocks_L13_s] at h
      refine lv_iload_n hx hb dX6_blocks_13 rfl (lv_at hl 3 rfl) ?_
      refine lv_aload_n hx hb dX6_blocks_14 rfl (lv_at hl 0 rfl) ?_
      refine va_get (D := g.1) (ci := 6) (v := .ref (an 0)) (C := RX6) (T := TX6) (N := 3) hx hb hts inX6_blocks_RX6 hown hK hP 0 rfl rfl 0 (Nat.le_of_ble_eq_true rfl) (hts _ (List.mem_of_getElem? (i := 1) rfl)) (fun _ h9 => h9) rfl dX6_blocks_15 ?_
      refine va_get (D := g.1) (ci := 5) (v := .ref (an 1)) (C := RX5) (T := TX5) (N := 11) hx hb hts inX6_blocks_RX5 hown hK hP 1 rfl rfl 0 (Nat.le_of_ble_eq_true rfl) (hts _ (List.mem_of_getElem? (i := 2) rfl)) (fun _ h9 => h9) rfl dX6_blocks_18 ?_
      refine va_get (D := g.1) (ci := 3) (v := .int ((V 4) 0)) (C := RX3) (T := TX3) (N := 6) hx hb hts inX6_blocks_RX3 hown hK hP 2 rfl rfl 4 (Nat.le_of_ble_eq_true rfl) (hts _ (List.mem_of_getElem? (i := 3) rfl)) (fun _ h9 => h9) rfl dX6_blocks_21 ?_
      refine lv_icmp_ge (tgt := 45) hx hb dX6_blocks_24 (by decide) (fun c24 => ?_) (fun c24 => ?_)
      · replace h := az_pos c24 h
        refine lv_iload_n hx hb dX6_blocks_45 rfl (lv_at hl 2 rfl) ?_
        have hP : va_P g.1 az_cl (az_w6 g ax an au V Y) _ := hP
        have hD : va_D A (az_w6 g ax an au V Y) := hD
        rw [← Option.some.inj h]
        exact az_iretT hx hb hr hlocks hK hP hD hS dX6_blocks_46 (Nat.le_of_ble_eq_true rfl) (Nat.le_of_ble_eq_true rfl)
      · replace h := az_neg c24 h
        refine lv_iload_n hx hb dX6_blocks_27 rfl (lv_at hl 2 rfl) ?_
        refine lv_aload_n hx hb dX6_blocks_28 rfl (lv_at hl 0 rfl) ?_
        refine va_get (D := g.1) (ci := 6) (v := .ref (an 0)) (C := RX6) (T := TX6) (N := 3) hx hb hts inX6_blocks_RX6 hown hK hP 0 rfl rfl 0 (Nat.le_of_ble_eq_true rfl) (hts _ (List.mem_of_getElem? (i := 1) rfl)) (fun _ h9 => h9) rfl dX6_blocks_29 ?_
        refine lv_iload_n hx hb dX6_blocks_32 rfl (lv_at hl 3 rfl) ?_
        refine lv_iload_n hx hb dX6_blocks_33 rfl (lv_at hl 1 rfl) ?_
        obtain ⟨o34, hc34, h⟩ := az_bnd h
        refine az_callPi (w2 := az_w6 g ax an au V Y) (As := [.int y3, .int x1]) (rest := [.int y2]) ⟨hx, hb, hml, hown, hts⟩ hl.1 (kX5_blocksIn l g an V y3 x1 o34 hc34) (cwV 2 hts gX6_blocks_X5_blocksIn rfl rfl rfl (by decide +kernel) ⟨(Nat.le_of_ble_eq_true rfl), (Nat.le_of_ble_eq_true rfl)⟩) rfl hK hP hD hS hA (az_pm (az_x ax an au :: (az_cV g an V).take 0) (az_cV g an V) ((az_cV g an V).drop 20 ++ Y)) (az_pm (az_x ax an au :: (az_cV g an V).take 0) (az_cV g an V) ((az_cV g an V).drop 20 ++ Y)).symm 0 rfl rfl rfl (Nat.le_of_ble_eq_true rfl) dX6_blocks_34 ⟨(Nat.le_of_ble_eq_true rfl), (Nat.le_of_ble_eq_true rfl)⟩ rfl (fun H locs hP hD hS => ?_)
        have hP : va_P g.1 az_cl (az_w6 g ax an au V Y) _ := hP
        have hD : va_D A (az_w6 g ax an au V Y) := hD
        refine lv_iadd hx hb dX6_blocks_37 ?_
        refine lv_istore_n (lv' := [(2, .int (y2 + o34)), (0, .ref (ax 0)), (1, .int x1), (3, .int y3)]) hx hb dX6_blocks_38 rfl hl (by decide) rfl (fun ls hl => ?_)
        refine lv_iinc (v := y3 + (1 : Int32)) (lv' := [(3, .int (y3 + (1 : Int32))), (2, .int (y2 + o34)), (0, .ref (ax 0)), (1, .int x1)]) hx hb dX6_blocks_39 hl (k := 3) rfl (rfl) (by decide) rfl (fun ls hl => ?_)
        refine lv_goto (tgt := 13) hx hb dX6_blocks_42 (by decide) ?_
        have hP : va_P g.1 az_cl (az_w6 g ax an au V Y) _ := hP
        have hD : va_D A (az_w6 g ax an au V Y) := hD
        exact ih (y2 + o34) (y3 + (1 : Int32)) _ _ ls h hP hD hS (lv_sub hl [2, 3, 1, 0] rfl)
  refine lv_iload_n hx hb dX6_blocks_0 rfl (lv_at hl 1 rfl) ?_
  refine lv_iconst (v := (0 : Int32)) hx hb dX6_blocks_1 (by decide) ?_
  refine lv_iconst (v := (4 : Int32)) hx hb dX6_blocks_2 (by decide) ?_
  obtain ⟨o3, hc3, h⟩ := az_bnd h
  refine az_callS0 (As := [.int x1, .int (0 : Int32), .int (4 : Int32)]) (rest := []) ⟨hx, hb, hml, hown, hts⟩ hl.1 (kX6_isBetween l g x1 (0 : Int32) (4 : Int32) o3 hc3) (va_cwS 3 hts gX6_blocks_X6_isBetween rfl rfl rfl (by decide +kernel) ⟨(Nat.le_of_ble_eq_true rfl), (Nat.le_of_ble_eq_true rfl)⟩) rfl hK hP hS hA (Nat.le_of_ble_eq_true rfl) dX6_blocks_3 ⟨(Nat.le_of_ble_eq_true rfl), (Nat.le_of_ble_eq_true rfl)⟩ rfl (fun H locs hP hS => ?_)
  obtain ⟨o6, hc6, h⟩ := az_bnd h
  refine az_callST (As := [.int o3]) (rest := []) ⟨hx, hb, hml, hown, hts⟩ hl.1 (kX6_checkArgument l hst g sa o3 o6 hc6) (va_cwS 1 hts gX6_blocks_X6_checkArgument rfl rfl rfl (by decide +kernel) ⟨(Nat.le_of_ble_eq_true rfl), (Nat.le_of_ble_eq_true rfl)⟩) rfl hK hcx hP hS hA (Nat.le_of_ble_eq_true rfl) dX6_blocks_6 ⟨(Nat.le_of_ble_eq_true rfl), (Nat.le_of_ble_eq_true rfl)⟩ rfl (fun n6 ce q9 H locs hP hS hce hcv hcl => ?_) (fun c6 H locs hP hS => ?_)
  · replace h := az_neg n6 h
    have hP : va_P g.1 az_cl (az_w6 g ax an au V Y) _ := hP
    have hD : va_D A (az_w6 g ax an au V Y) := hD
    rw [← Option.some.inj h]
    exact az_outT n6 hex hlocks hce hcv hcl hK hP hD hS (Nat.le_of_ble_eq_true rfl) (Nat.le_of_ble_eq_true rfl)
  replace h := az_pos c6 h
  refine lv_iconst (v := (0 : Int32)) hx hb dX6_blocks_9 (by decide) ?_
  refine lv_istore_n (lv' := [(2, .int (0 : Int32)), (0, .ref (ax 0)), (1, .int x1)]) hx hb dX6_blocks_10 rfl hl (by decide) rfl (fun ls hl => ?_)
  refine lv_iconst (v := (0 : Int32)) hx hb dX6_blocks_11 (by decide) ?_
  refine lv_istore_n (lv' := [(3, .int (0 : Int32)), (2, .int (0 : Int32)), (0, .ref (ax 0)), (1, .int x1)]) hx hb dX6_blocks_12 rfl hl (by decide) rfl (fun ls hl => ?_)
  have hP : va_P g.1 az_cl (az_w6 g ax an au V Y) _ := hP
  have hD : va_D A (az_w6 g ax an au V Y) := hD
  refine W.widen (k := 1) (n := 6) (Nat.le_of_ble_eq_true rfl) (Nat.le_of_ble_eq_true rfl) ?_
  exact hL13 az_fuel (0 : Int32) (0 : Int32) _ _ ls h hP hD hS (lv_sub hl [2, 3, 1, 0] rfl)

def FX6_checkSegment (V : az_St) (x1 : Int32) : Option (Nat) := (FX6_isBetween x1 (0 : Int32) (((V 4) 0) - (1 : Int32))).bind (fun o14 => (FX6_checkIndex o14).bind (fun o17 => if o17 = 0 then (some (0)) else some o17))
theorem inX6_checkSegment_RX3 : ∀ w ∈ wsX30, w ∈ wsX6_checkSegment := az_inr [27, 28, 29, 30, 31, 32] (by decide +kernel)
theorem inX6_checkSegment_RX5 : ∀ w ∈ wsX50, w ∈ wsX6_checkSegment := az_inr [16, 17, 18, 19, 20, 21, 22, 23, 24, 25, 26] (by decide +kernel)
theorem inX6_checkSegment_RX6 : ∀ w ∈ wsX60, w ∈ wsX6_checkSegment := az_inr [13, 14, 15] (by decide +kernel)
set_option maxHeartbeats 4000000 in
set_option maxRecDepth 100000 in
theorem kX6_checkSegment (l : Launch) (hst : l.stackTraces = false) (g : az_G) (sa : Nat → Nat) (ax : Nat → Nat) (an : Nat → Nat) (au : Nat → Nat) (Y : va_W) (V : az_St) (x1 : Int32) (o : Nat) (h : FX6_checkSegment V x1 = some o) : az_TV l yX6_checkSegment wsX6_checkSegment ({ frames := 7, cells := 1, slots := 6, locals := 120 } : Room) [.ref (ax 0), .int x1] g sa (az_w6 g ax an au V Y) o (az_w6 g ax an au V Y) 1 := by
  refine az_bodyT (cc := cX6_checkSegment) (maxL := 2) (ret := none) (mc := 1) (ms := 6) (Qc := fun A => az_QTV g (az_w6 g ax an au V Y) o A) (XC := fun A => az_XT g (az_w6 g ax an au V Y) o A) (by decide +kernel) rfl (Nat.le_of_ble_eq_true rfl) ?_
  intro p e s m args below meth c A hx hb hr hts hown hml hlocks hex hcx hA hK hP hD hS ls hl
  have hl : lv_has ls 2 [(0, .ref (ax 0)), (1, .int x1)] := hl
  unfold FX6_checkSegment at h
  refine lv_iload_n hx hb dX6_checkSegment_0 rfl (lv_at hl 1 rfl) ?_
  refine lv_iconst (v := (0 : Int32)) hx hb dX6_checkSegment_1 (by decide) ?_
  refine lv_aload_n hx hb dX6_checkSegment_2 rfl (lv_at hl 0 rfl) ?_
  refine va_get (D := g.1) (ci := 6) (v := .ref (an 0)) (C := RX6) (T := TX6) (N := 3) hx hb hts inX6_checkSegment_RX6 hown hK hP 0 rfl rfl 0 (Nat.le_of_ble_eq_true rfl) (hts _ (List.mem_of_getElem? (i := 1) rfl)) (fun _ h9 => h9) rfl dX6_checkSegment_3 ?_
  refine va_get (D := g.1) (ci := 5) (v := .ref (an 1)) (C := RX5) (T := TX5) (N := 11) hx hb hts inX6_checkSegment_RX5 hown hK hP 1 rfl rfl 0 (Nat.le_of_ble_eq_true rfl) (hts _ (List.mem_of_getElem? (i := 2) rfl)) (fun _ h9 => h9) rfl dX6_checkSegment_6 ?_
  refine va_get (D := g.1) (ci := 3) (v := .int ((V 4) 0)) (C := RX3) (T := TX3) (N := 6) hx hb hts inX6_checkSegment_RX3 hown hK hP 2 rfl rfl 4 (Nat.le_of_ble_eq_true rfl) (hts _ (List.mem_of_getElem? (i := 3) rfl)) (fun _ h9 => h9) rfl dX6_checkSegment_9 ?_
  refine lv_iconst (v := (1 : Int32)) hx hb dX6_checkSegment_12 (by decide) ?_
  refine lv_isub hx hb dX6_checkSegment_13 ?_
  obtain ⟨o14, hc14, h⟩ := az_bnd h
  refine az_callS0 (As := [.int x1, .int (0 : Int32), .int (((V 4) 0) - (1 : Int32))]) (rest := []) ⟨hx, hb, hml, hown, hts⟩ hl.1 (kX6_isBetween l g x1 (0 : Int32) (((V 4) 0) - (1 : Int32)) o14 hc14) (va_cwS 3 hts gX6_checkSegment_X6_isBetween rfl rfl rfl (by decide +kernel) ⟨(Nat.le_of_ble_eq_true rfl), (Nat.le_of_ble_eq_true rfl)⟩) rfl hK hP hS hA (Nat.le_of_ble_eq_true rfl) dX6_checkSegment_14 ⟨(Nat.le_of_ble_eq_true rfl), (Nat.le_of_ble_eq_true rfl)⟩ rfl (fun H locs hP hS => ?_)
  obtain ⟨o17, hc17, h⟩ := az_bnd h
  refine az_callST (As := [.int o14]) (rest := []) ⟨hx, hb, hml, hown, hts⟩ hl.1 (kX6_checkIndex l hst g sa o14 o17 hc17) (va_cwS 1 hts gX6_checkSegment_X6_checkIndex rfl rfl rfl (by decide +kernel) ⟨(Nat.le_of_ble_eq_true rfl), (Nat.le_of_ble_eq_true rfl)⟩) rfl hK hcx hP hS hA (Nat.le_of_ble_eq_true rfl) dX6_checkSegment_17 ⟨(Nat.le_of_ble_eq_true rfl), (Nat.le_of_ble_eq_true rfl)⟩ rfl (fun n17 ce q9 H locs hP hS hce hcv hcl => ?_) (fun c17 H locs hP hS => ?_)
  · replace h := az_neg n17 h
    have hP : va_P g.1 az_cl (az_w6 g ax an au V Y) _ := hP
    have hD : va_D A (az_w6 g ax an au V Y) := hD
    rw [← Option.some.inj h]
    exact az_outT n17 hex hlocks hce hcv hcl hK hP hD hS (Nat.le_of_ble_eq_true rfl) (Nat.le_of_ble_eq_true rfl)
  replace h := az_pos c17 h
  have hP : va_P g.1 az_cl (az_w6 g ax an au V Y) _ := hP
  have hD : va_D A (az_w6 g ax an au V Y) := hD
  rw [← Option.some.inj h]
  exact az_vretT hx hb hr hlocks hK hP hD hS dX6_checkSegment_20 (Nat.le_of_ble_eq_true rfl) (Nat.le_of_ble_eq_true rfl)

def FX6_segment (V : az_St) (x1 : Int32) (x2 : Int32) : Option (Nat × Int32) := (FX6_checkSegment V x1).bind (fun o2 => if o2 = 0 then (if x2 = (0 : Int32) then (if az_in x1 10 = true then some (0, (V 0) x1.toNatClampNeg) else none) else (if x2 = (1 : Int32) then ((FX5_useOf V x1).bind (fun o62 => some (0, o62))) else (if x2 = (2 : Int32) then ((FX5_blocksIn V x1 (3 : Int32)).bind (fun o72 => some (0, o72))) else (if x2 = (3 : Int32) then ((FX5_blocksIn V x1 (4 : Int32)).bind (fun o82 => some (0, o82))) else (if x2 = (4 : Int32) then (if az_in x1 10 = true then some (0, (V 1) x1.toNatClampNeg) else none) else (if x2 = (5 : Int32) then ((FX5_ageOf V x1).bind (fun o104 => some (0, o104))) else (some (2, (0 : Int32))))))))) else some (o2, (0 : Int32)))
theorem inX6_segment_RX3 : ∀ w ∈ wsX30, w ∈ wsX6_segment := az_inr [68, 69, 70, 71, 72, 73] (by decide +kernel)
theorem inX6_segment_RX5 : ∀ w ∈ wsX50, w ∈ wsX6_segment := az_inr [57, 58, 59, 60, 61, 62, 63, 64, 65, 66, 67] (by decide +kernel)
theorem inX6_segment_RX6 : ∀ w ∈ wsX60, w ∈ wsX6_segment := az_inr [54, 55, 56] (by decide +kernel)
set_option maxHeartbeats 4000000 in
set_option maxRecDepth 100000 in
theorem kX6_segment (l : Launch) (hst : l.stackTraces = false) (g : az_G) (sa : Nat → Nat) (ax : Nat → Nat) (an : Nat → Nat) (au : Nat → Nat) (Y : va_W) (V : az_St) (x1 : Int32) (x2 : Int32) (o : Nat × Int32) (h : FX6_segment V x1 x2 = some o) : az_TI l yX6_segment wsX6_segment ({ frames := 8, cells := 2, slots := 12, locals := 141 } : Room) [.ref (ax 0), .int x1, .int x2] g sa (az_w6 g ax an au V Y) o.1 o.2 (az_w6 g ax an au V Y) 2 := by
  refine az_bodyT (cc := cX6_segment) (maxL := 3) (ret := (some .int)) (mc := 2) (ms := 12) (Qc := fun A => az_QTI g (az_w6 g ax an au V Y) o.1 o.2 A) (XC := fun A => az_XT g (az_w6 g ax an au V Y) o.1 A) (by decide +kernel) rfl (Nat.le_of_ble_eq_true rfl) ?_
  intro p e s m args below meth c A hx hb hr hts hown hml hlocks hex hcx hA hK hP hD hS ls hl
  have hl : lv_has ls 3 [(0, .ref (ax 0)), (1, .int x1), (2, .int x2)] := hl
  unfold FX6_segment at h
  refine lv_aload_n hx hb dX6_segment_0 rfl (lv_at hl 0 rfl) ?_
  refine lv_iload_n hx hb dX6_segment_1 rfl (lv_at hl 1 rfl) ?_
  obtain ⟨o2, hc2, h⟩ := az_bnd h
  refine az_callVT (As := [.int x1]) (rest := []) ⟨hx, hb, hml, hown, hts⟩ hl.1 (kX6_checkSegment l hst g sa ax an au Y V x1 o2 hc2) (cwV 1 hts gX6_segment_X6_checkSegment rfl rfl rfl (by decide +kernel) ⟨(Nat.le_of_ble_eq_true rfl), (Nat.le_of_ble_eq_true rfl)⟩) rfl hK hcx hP hD hS hA 0 rfl rfl rfl (Nat.le_of_ble_eq_true rfl) dX6_segment_2 ⟨(Nat.le_of_ble_eq_true rfl), (Nat.le_of_ble_eq_true rfl)⟩ rfl (fun n2 ce q9 H locs hP hS hce hcv hcl => ?_) (fun c2 H locs hP hS => ?_)
  · replace h := az_neg n2 h
    have hP : va_P g.1 az_cl (az_w6 g ax an au V Y) _ := hP
    have hD : va_D A (az_w6 g ax an au V Y) := hD
    rw [← Option.some.inj h]
    exact az_outT n2 hex hlocks hce hcv hcl hK hP hD hS (Nat.le_of_ble_eq_true rfl) (Nat.le_of_ble_eq_true rfl)
  replace h := az_pos c2 h
  refine lv_iload_n hx hb dX6_segment_5 rfl (lv_at hl 2 rfl) ?_
  by_cases c6_0 : x2 = (0 : Int32)
  · replace h := az_pos c6_0 h
    refine lv_tableIn (tgt := 44) (off := 38) hx hb dX6_segment_6 (by rw [c6_0]; decide) (by rw [c6_0]; decide) (by rw [c6_0]; rfl) (by decide) ?_
    refine lv_aload_n hx hb dX6_segment_44 rfl (lv_at hl 0 rfl) ?_
    refine va_get (D := g.1) (ci := 6) (v := .ref (an 0)) (C := RX6) (T := TX6) (N := 3) hx hb hts inX6_segment_RX6 hown hK hP 0 rfl rfl 0 (Nat.le_of_ble_eq_true rfl) (hts _ (List.mem_of_getElem? (i := 3) rfl)) (fun _ h9 => h9) rfl dX6_segment_45 ?_
    refine va_get (D := g.1) (ci := 5) (v := .ref (an 1)) (C := RX5) (T := TX5) (N := 11) hx hb hts inX6_segment_RX5 hown hK hP 1 rfl rfl 0 (Nat.le_of_ble_eq_true rfl) (hts _ (List.mem_of_getElem? (i := 4) rfl)) (fun _ h9 => h9) rfl dX6_segment_48 ?_
    refine va_get (D := g.1) (ci := 3) (v := .ref (an 2)) (C := RX3) (T := TX3) (N := 6) hx hb hts inX6_segment_RX3 hown hK hP 2 rfl rfl 0 (Nat.le_of_ble_eq_true rfl) (hts _ (List.mem_of_getElem? (i := 5) rfl)) (fun _ h9 => h9) rfl dX6_segment_51 ?_
    refine lv_iload_n hx hb dX6_segment_54 rfl (lv_at hl 1 rfl) ?_
    obtain ⟨i55, h⟩ := az_ite h
    refine va_iald (D := g.1) (f := (V 0)) hx hb hK hP 3 0 rfl rfl (az_vin i55) dX6_segment_55 ?_
    have hP : va_P g.1 az_cl (az_w6 g ax an au V Y) _ := hP
    have hD : va_D A (az_w6 g ax an au V Y) := hD
    rw [← Option.some.inj h]
    exact az_iretT hx hb hr hlocks hK hP hD hS dX6_segment_56 (Nat.le_of_ble_eq_true rfl) (Nat.le_of_ble_eq_true rfl)
  · replace h := az_neg c6_0 h
    by_cases c6_1 : x2 = (1 : Int32)
    · replace h := az_pos c6_1 h
      refine lv_tableIn (tgt := 57) (off := 51) hx hb dX6_segment_6 (by rw [c6_1]; decide) (by rw [c6_1]; decide) (by rw [c6_1]; rfl) (by decide) ?_
      refine lv_aload_n hx hb dX6_segment_57 rfl (lv_at hl 0 rfl) ?_
      refine va_get (D := g.1) (ci := 6) (v := .ref (an 0)) (C := RX6) (T := TX6) (N := 3) hx hb hts inX6_segment_RX6 hown hK hP 0 rfl rfl 0 (Nat.le_of_ble_eq_true rfl) (hts _ (List.mem_of_getElem? (i := 3) rfl)) (fun _ h9 => h9) rfl dX6_segment_58 ?_
      refine lv_iload_n hx hb dX6_segment_61 rfl (lv_at hl 1 rfl) ?_
      obtain ⟨o62, hc62, h⟩ := az_bnd h
      refine az_callPi (w2 := az_w6 g ax an au V Y) (As := [.int x1]) (rest := []) ⟨hx, hb, hml, hown, hts⟩ hl.1 (kX5_useOf l g an V x1 o62 hc62) (cwV 1 hts gX6_segment_X5_useOf rfl rfl rfl (by decide +kernel) ⟨(Nat.le_of_ble_eq_true rfl), (Nat.le_of_ble_eq_true rfl)⟩) rfl hK hP hD hS hA (az_pm (az_x ax an au :: (az_cV g an V).take 0) (az_cV g an V) ((az_cV g an V).drop 20 ++ Y)) (az_pm (az_x ax an au :: (az_cV g an V).take 0) (az_cV g an V) ((az_cV g an V).drop 20 ++ Y)).symm 0 rfl rfl rfl (Nat.le_of_ble_eq_true rfl) dX6_segment_62 ⟨(Nat.le_of_ble_eq_true rfl), (Nat.le_of_ble_eq_true rfl)⟩ rfl (fun H locs hP hD hS => ?_)
      have hP : va_P g.1 az_cl (az_w6 g ax an au V Y) _ := hP
      have hD : va_D A (az_w6 g ax an au V Y) := hD
      have hP : va_P g.1 az_cl (az_w6 g ax an au V Y) _ := hP
      have hD : va_D A (az_w6 g ax an au V Y) := hD
      rw [← Option.some.inj h]
      exact az_iretT hx hb hr hlocks hK hP hD hS dX6_segment_65 (Nat.le_of_ble_eq_true rfl) (Nat.le_of_ble_eq_true rfl)
    · replace h := az_neg c6_1 h
      by_cases c6_2 : x2 = (2 : Int32)
      · replace h := az_pos c6_2 h
        refine lv_tableIn (tgt := 66) (off := 60) hx hb dX6_segment_6 (by rw [c6_2]; decide) (by rw [c6_2]; decide) (by rw [c6_2]; rfl) (by decide) ?_
        refine lv_aload_n hx hb dX6_segment_66 rfl (lv_at hl 0 rfl) ?_
        refine va_get (D := g.1) (ci := 6) (v := .ref (an 0)) (C := RX6) (T := TX6) (N := 3) hx hb hts inX6_segment_RX6 hown hK hP 0 rfl rfl 0 (Nat.le_of_ble_eq_true rfl) (hts _ (List.mem_of_getElem? (i := 3) rfl)) (fun _ h9 => h9) rfl dX6_segment_67 ?_
        refine lv_iload_n hx hb dX6_segment_70 rfl (lv_at hl 1 rfl) ?_
        refine lv_iconst (v := (3 : Int32)) hx hb dX6_segment_71 (by decide) ?_
        obtain ⟨o72, hc72, h⟩ := az_bnd h
        refine az_callPi (w2 := az_w6 g ax an au V Y) (As := [.int x1, .int (3 : Int32)]) (rest := []) ⟨hx, hb, hml, hown, hts⟩ hl.1 (kX5_blocksIn l g an V x1 (3 : Int32) o72 hc72) (cwV 2 hts gX6_segment_X5_blocksIn rfl rfl rfl (by decide +kernel) ⟨(Nat.le_of_ble_eq_true rfl), (Nat.le_of_ble_eq_true rfl)⟩) rfl hK hP hD hS hA (az_pm (az_x ax an au :: (az_cV g an V).take 0) (az_cV g an V) ((az_cV g an V).drop 20 ++ Y)) (az_pm (az_x ax an au :: (az_cV g an V).take 0) (az_cV g an V) ((az_cV g an V).drop 20 ++ Y)).symm 0 rfl rfl rfl (Nat.le_of_ble_eq_true rfl) dX6_segment_72 ⟨(Nat.le_of_ble_eq_true rfl), (Nat.le_of_ble_eq_true rfl)⟩ rfl (fun H locs hP hD hS => ?_)
        have hP : va_P g.1 az_cl (az_w6 g ax an au V Y) _ := hP
        have hD : va_D A (az_w6 g ax an au V Y) := hD
        have hP : va_P g.1 az_cl (az_w6 g ax an au V Y) _ := hP
        have hD : va_D A (az_w6 g ax an au V Y) := hD
        rw [← Option.some.inj h]
        exact az_iretT hx hb hr hlocks hK hP hD hS dX6_segment_75 (Nat.le_of_ble_eq_true rfl) (Nat.le_of_ble_eq_true rfl)
      · replace h := az_neg c6_2 h
        by_cases c6_3 : x2 = (3 : Int32)
        · replace h := az_pos c6_3 h
          refine lv_tableIn (tgt := 76) (off := 70) hx hb dX6_segment_6 (by rw [c6_3]; decide) (by rw [c6_3]; decide) (by rw [c6_3]; rfl) (by decide) ?_
          refine lv_aload_n hx hb dX6_segment_76 rfl (lv_at hl 0 rfl) ?_
          refine va_get (D := g.1) (ci := 6) (v := .ref (an 0)) (C := RX6) (T := TX6) (N := 3) hx hb hts inX6_segment_RX6 hown hK hP 0 rfl rfl 0 (Nat.le_of_ble_eq_true rfl) (hts _ (List.mem_of_getElem? (i := 3) rfl)) (fun _ h9 => h9) rfl dX6_segment_77 ?_
          refine lv_iload_n hx hb dX6_segment_80 rfl (lv_at hl 1 rfl) ?_
          refine lv_iconst (v := (4 : Int32)) hx hb dX6_segment_81 (by decide) ?_
          obtain ⟨o82, hc82, h⟩ := az_bnd h
          refine az_callPi (w2 := az_w6 g ax an au V Y) (As := [.int x1, .int (4 : Int32)]) (rest := []) ⟨hx, hb, hml, hown, hts⟩ hl.1 (kX5_blocksIn l g an V x1 (4 : Int32) o82 hc82) (cwV 2 hts gX6_segment_X5_blocksIn rfl rfl rfl (by decide +kernel) ⟨(Nat.le_of_ble_eq_true rfl), (Nat.le_of_ble_eq_true rfl)⟩) rfl hK hP hD hS hA (az_pm (az_x ax an au :: (az_cV g an V).take 0) (az_cV g an V) ((az_cV g an V).drop 20 ++ Y)) (az_pm (az_x ax an au :: (az_cV g an V).take 0) (az_cV g an V) ((az_cV g an V).drop 20 ++ Y)).symm 0 rfl rfl rfl (Nat.le_of_ble_eq_true rfl) dX6_segment_82 ⟨(Nat.le_of_ble_eq_true rfl), (Nat.le_of_ble_eq_true rfl)⟩ rfl (fun H locs hP hD hS => ?_)
          have hP : va_P g.1 az_cl (az_w6 g ax an au V Y) _ := hP
          have hD : va_D A (az_w6 g ax an au V Y) := hD
          have hP : va_P g.1 az_cl (az_w6 g ax an au V Y) _ := hP
          have hD : va_D A (az_w6 g ax an au V Y) := hD
          rw [← Option.some.inj h]
          exact az_iretT hx hb hr hlocks hK hP hD hS dX6_segment_85 (Nat.le_of_ble_eq_true rfl) (Nat.le_of_ble_eq_true rfl)
        · replace h := az_neg c6_3 h
          by_cases c6_4 : x2 = (4 : Int32)
          · replace h := az_pos c6_4 h
            refine lv_tableIn (tgt := 86) (off := 80) hx hb dX6_segment_6 (by rw [c6_4]; decide) (by rw [c6_4]; decide) (by rw [c6_4]; rfl) (by decide) ?_
            refine lv_aload_n hx hb dX6_segment_86 rfl (lv_at hl 0 rfl) ?_
            refine va_get (D := g.1) (ci := 6) (v := .ref (an 0)) (C := RX6) (T := TX6) (N := 3) hx hb hts inX6_segment_RX6 hown hK hP 0 rfl rfl 0 (Nat.le_of_ble_eq_true rfl) (hts _ (List.mem_of_getElem? (i := 3) rfl)) (fun _ h9 => h9) rfl dX6_segment_87 ?_
            refine va_get (D := g.1) (ci := 5) (v := .ref (an 1)) (C := RX5) (T := TX5) (N := 11) hx hb hts inX6_segment_RX5 hown hK hP 1 rfl rfl 0 (Nat.le_of_ble_eq_true rfl) (hts _ (List.mem_of_getElem? (i := 4) rfl)) (fun _ h9 => h9) rfl dX6_segment_90 ?_
            refine va_get (D := g.1) (ci := 3) (v := .ref (an 3)) (C := RX3) (T := TX3) (N := 6) hx hb hts inX6_segment_RX3 hown hK hP 2 rfl rfl 1 (Nat.le_of_ble_eq_true rfl) (hts _ (List.mem_of_getElem? (i := 6) rfl)) (fun _ h9 => h9) rfl dX6_segment_93 ?_
            refine lv_iload_n hx hb dX6_segment_96 rfl (lv_at hl 1 rfl) ?_
            obtain ⟨i97, h⟩ := az_ite h
            refine va_iald (D := g.1) (f := (V 1)) hx hb hK hP 4 0 rfl rfl (az_vin i97) dX6_segment_97 ?_
            have hP : va_P g.1 az_cl (az_w6 g ax an au V Y) _ := hP
            have hD : va_D A (az_w6 g ax an au V Y) := hD
            rw [← Option.some.inj h]
            exact az_iretT hx hb hr hlocks hK hP hD hS dX6_segment_98 (Nat.le_of_ble_eq_true rfl) (Nat.le_of_ble_eq_true rfl)
          · replace h := az_neg c6_4 h
            by_cases c6_5 : x2 = (5 : Int32)
            · replace h := az_pos c6_5 h
              refine lv_tableIn (tgt := 99) (off := 93) hx hb dX6_segment_6 (by rw [c6_5]; decide) (by rw [c6_5]; decide) (by rw [c6_5]; rfl) (by decide) ?_
              refine lv_aload_n hx hb dX6_segment_99 rfl (lv_at hl 0 rfl) ?_
              refine va_get (D := g.1) (ci := 6) (v := .ref (an 0)) (C := RX6) (T := TX6) (N := 3) hx hb hts inX6_segment_RX6 hown hK hP 0 rfl rfl 0 (Nat.le_of_ble_eq_true rfl) (hts _ (List.mem_of_getElem? (i := 3) rfl)) (fun _ h9 => h9) rfl dX6_segment_100 ?_
              refine lv_iload_n hx hb dX6_segment_103 rfl (lv_at hl 1 rfl) ?_
              obtain ⟨o104, hc104, h⟩ := az_bnd h
              refine az_callPi (w2 := az_w6 g ax an au V Y) (As := [.int x1]) (rest := []) ⟨hx, hb, hml, hown, hts⟩ hl.1 (kX5_ageOf l g an V x1 o104 hc104) (cwV 1 hts gX6_segment_X5_ageOf rfl rfl rfl (by decide +kernel) ⟨(Nat.le_of_ble_eq_true rfl), (Nat.le_of_ble_eq_true rfl)⟩) rfl hK hP hD hS hA (az_pm (az_x ax an au :: (az_cV g an V).take 0) (az_cV g an V) ((az_cV g an V).drop 20 ++ Y)) (az_pm (az_x ax an au :: (az_cV g an V).take 0) (az_cV g an V) ((az_cV g an V).drop 20 ++ Y)).symm 0 rfl rfl rfl (Nat.le_of_ble_eq_true rfl) dX6_segment_104 ⟨(Nat.le_of_ble_eq_true rfl), (Nat.le_of_ble_eq_true rfl)⟩ rfl (fun H locs hP hD hS => ?_)
              have hP : va_P g.1 az_cl (az_w6 g ax an au V Y) _ := hP
              have hD : va_D A (az_w6 g ax an au V Y) := hD
              have hP : va_P g.1 az_cl (az_w6 g ax an au V Y) _ := hP
              have hD : va_D A (az_w6 g ax an au V Y) := hD
              rw [← Option.some.inj h]
              exact az_iretT hx hb hr hlocks hK hP hD hS dX6_segment_107 (Nat.le_of_ble_eq_true rfl) (Nat.le_of_ble_eq_true rfl)
            · replace h := az_neg c6_5 h
              refine lv_tableOut (tgt := 108) hx hb dX6_segment_6 (by have n0 := lv_neT (a := 0) c6_0 (by decide); have n1 := lv_neT (a := 1) c6_1 (by decide); have n2 := lv_neT (a := 2) c6_2 (by decide); have n3 := lv_neT (a := 3) c6_3 (by decide); have n4 := lv_neT (a := 4) c6_4 (by decide); have n5 := lv_neT (a := 5) c6_5 (by decide); omega) (by decide) ?_
              have hP : va_P g.1 az_cl (az_w6 g ax an au V Y) _ := hP
              have hD : va_D A (az_w6 g ax an au V Y) := hD
              rw [← Option.some.inj h]
              exact az_throwS (k := 2) (ws' := az_w6 g ax an au V Y) (by decide) rfl (by decide +kernel) hx hb hst hown (hcx.2.2.2.1 2) (hts _ (List.mem_of_getElem? (i := 1) rfl)) (hts _ (List.mem_of_getElem? (i := 2) rfl)) hts (fun _ h => List.mem_cons_of_mem _ (List.mem_append_left _ (List.mem_append_right _ h))) thno_S_174 thgd_S_170_174 hcx hK hP hD hS (hl.1.trans hml.symm) dX6_segment_108 dX6_segment_111 dX6_segment_112 dX6_segment_114 dX6_segment_117 hex (Nat.le_of_ble_eq_true rfl) (Nat.le_of_ble_eq_true rfl) (Nat.le_of_ble_eq_true rfl) (Nat.le_of_ble_eq_true rfl) hlocks (Nat.le_of_ble_eq_true rfl) (Nat.le_of_ble_eq_true rfl)

def FX6_greatestDivisor_L7 : Nat → Int32 → Int32 → Int32 → Int32 → Int32 → Option (Int32)
  | 0, _, _, _, _, _ => none
  | n + 1, x0, x1, y2, y3, y4 => if (100 : Int32) ≤ y4 then (some (y2)) else (if y3 = (0 : Int32) then (some (y2)) else (if ¬ y3 = (0 : Int32) then FX6_greatestDivisor_L7 n x0 x1 y3 (y2 - y2 / y3 * y3) (y4 + (1 : Int32)) else none))
theorem FX6_greatestDivisor_L7_s (n : Nat) (x0 : Int32) (x1 : Int32) (y2 : Int32) (y3 : Int32) (y4 : Int32) : FX6_greatestDivisor_L7 (n + 1) x0 x1 y2 y3 y4 = (if (100 : Int32) ≤ y4 then (some (y2)) else (if y3 = (0 : Int32) then (some (y2)) else (if ¬ y3 = (0 : Int32) then FX6_greatestDivisor_L7 n x0 x1 y3 (y2 - y2 / y3 * y3) (y4 + (1 : Int32)) else none))) := rfl
def FX6_greatestDivisor (x0 : Int32) (x1 : Int32) : Option (Int32) := FX6_greatestDivisor_L7 az_fuel x0 x1 x0 x1 (0 : Int32)
set_option maxHeartbeats 4000000 in
set_option maxRecDepth 100000 in
theorem kX6_greatestDivisor (l : Launch) (g : az_G)  (x0 : Int32) (x1 : Int32) (o : Int32) (h : FX6_greatestDivisor x0 x1 = some o) : az_I l yX6_greatestDivisor wsX6_greatestDivisor ({ frames := 0, cells := 0, slots := 0, locals := 0 } : Room) [.int x0, .int x1] g ([]) o ([]) := by
  refine az_body (cc := cX6_greatestDivisor) (maxL := 6) (ret := (some .int)) (Qc := fun A => az_QI g ([]) o A) (by decide +kernel) rfl (Nat.le_of_ble_eq_true rfl) ?_
  intro p e s m args below meth c A hx hb hr hts hown hml hlocks hA hK hP hD hS ls hl
  have hl : lv_has ls 6 [(0, .int x0), (1, .int x1)] := hl
  unfold FX6_greatestDivisor at h
  have hL7 : ∀ (n : Nat) (y2 : Int32) (y3 : Int32) (y4 : Int32) (H : Heap) (locs : List Loc) (ls : Array Slot), FX6_greatestDivisor_L7 n x0 x1 y2 y3 y4 = some o → va_P g.1 az_cl ([]) H → va_D A ([]) → va_S A s.heap H locs → lv_has ls 6 [(2, .int y2), (3, .int y3), (4, .int y4)] → W p l e ({ frames := 0, cells := 0, slots := 0, locals := 0 } : Room) s m args below meth c H locs 0 0 (MQ below (az_QI g ([]) o A) args s 0 0 A) (F0 m 7 ls []) := by
    intro n
    induction n with
    | zero => intro y2 y3 y4 H locs ls h; exact az_non h
    | succ n ih =>
      intro y2 y3 y4 H locs ls h hP hD hS hl
      rw [FX6_greatestDivisor_L7_s] at h
      refine lv_iload hx hb dX6_greatestDivisor_7 (lv_at hl 2 rfl) ?_
      refine lv_bipush (v := (100 : Int32)) hx hb dX6_greatestDivisor_9 (by decide) ?_
      refine lv_icmp_ge (tgt := 34) hx hb dX6_greatestDivisor_11 (by decide) (fun c11 => ?_) (fun c11 => ?_)
      · replace h := az_pos c11 h
        refine lv_iload_n hx hb dX6_greatestDivisor_34 rfl (lv_at hl 0 rfl) ?_
        have hP : va_P g.1 az_cl ([]) _ := hP
        have hD : va_D A ([]) := hD
        rw [← Option.some.inj h]
        exact az_iret hx hb hr hlocks hK hP hD hS dX6_greatestDivisor_35
      · replace h := az_neg c11 h
        refine lv_iload_n hx hb dX6_greatestDivisor_14 rfl (lv_at hl 1 rfl) ?_
        refine lv_if_eq (tgt := 34) hx hb dX6_greatestDivisor_15 (by decide) (fun c15 => ?_) (fun c15 => ?_)
        · replace h := az_pos c15 h
          refine lv_iload_n hx hb dX6_greatestDivisor_34 rfl (lv_at hl 0 rfl) ?_
          have hP : va_P g.1 az_cl ([]) _ := hP
          have hD : va_D A ([]) := hD
          rw [← Option.some.inj h]
          exact az_iret hx hb hr hlocks hK hP hD hS dX6_greatestDivisor_35
        · replace h := az_neg c15 h
          refine lv_iload_n hx hb dX6_greatestDivisor_18 rfl (lv_at hl 0 rfl) ?_
          refine lv_iload_n hx hb dX6_greatestDivisor_19 rfl (lv_at hl 1 rfl) ?_
          obtain ⟨c20, h⟩ := az_ite h
          refine lv_irem hx hb dX6_greatestDivisor_20 c20 ?_
          refine lv_istore (lv' := [(5, .int (y2 - y2 / y3 * y3)), (2, .int y2), (3, .int y3), (4, .int y4)]) hx hb dX6_greatestDivisor_21 hl (by decide) rfl (fun ls hl => ?_)
          refine lv_iload_n hx hb dX6_greatestDivisor_23 rfl (lv_at hl 2 rfl) ?_
          refine lv_istore_n (lv' := [(2, .int y3), (5, .int (y2 - y2 / y3 * y3)), (3, .int y3), (4, .int y4)]) hx hb dX6_greatestDivisor_24 rfl hl (by decide) rfl (fun ls hl => ?_)
          refine lv_iload hx hb dX6_greatestDivisor_25 (lv_at hl 1 rfl) ?_
          refine lv_istore_n (lv' := [(3, .int (y2 - y2 / y3 * y3)), (2, .int y3), (5, .int (y2 - y2 / y3 * y3)), (4, .int y4)]) hx hb dX6_greatestDivisor_27 rfl hl (by decide) rfl (fun ls hl => ?_)
          refine lv_iinc (v := y4 + (1 : Int32)) (lv' := [(4, .int (y4 + (1 : Int32))), (3, .int (y2 - y2 / y3 * y3)), (2, .int y3), (5, .int (y2 - y2 / y3 * y3))]) hx hb dX6_greatestDivisor_28 hl (k := 3) rfl (rfl) (by decide) rfl (fun ls hl => ?_)
          refine lv_goto (tgt := 7) hx hb dX6_greatestDivisor_31 (by decide) ?_
          have hP : va_P g.1 az_cl ([]) _ := hP
          have hD : va_D A ([]) := hD
          exact ih y3 (y2 - y2 / y3 * y3) (y4 + (1 : Int32)) _ _ ls h hP hD hS (lv_sub hl [2, 1, 0] rfl)
  refine lv_iload_n hx hb dX6_greatestDivisor_0 rfl (lv_at hl 0 rfl) ?_
  refine lv_istore_n (lv' := [(2, .int x0), (0, .int x0), (1, .int x1)]) hx hb dX6_greatestDivisor_1 rfl hl (by decide) rfl (fun ls hl => ?_)
  refine lv_iload_n hx hb dX6_greatestDivisor_2 rfl (lv_at hl 2 rfl) ?_
  refine lv_istore_n (lv' := [(3, .int x1), (2, .int x0), (0, .int x0), (1, .int x1)]) hx hb dX6_greatestDivisor_3 rfl hl (by decide) rfl (fun ls hl => ?_)
  refine lv_iconst (v := (0 : Int32)) hx hb dX6_greatestDivisor_4 (by decide) ?_
  refine lv_istore (lv' := [(4, .int (0 : Int32)), (3, .int x1), (2, .int x0), (0, .int x0), (1, .int x1)]) hx hb dX6_greatestDivisor_5 hl (by decide) rfl (fun ls hl => ?_)
  have hP : va_P g.1 az_cl ([]) _ := hP
  have hD : va_D A ([]) := hD
  exact hL7 az_fuel x0 x1 (0 : Int32) _ _ ls h hP hD hS (lv_sub hl [2, 1, 0] rfl)

def FX6_inLowestTerms (x0 : Int32) (x1 : Int32) (x2 : Int32) : Option (Int32) := if x2 = (0 : Int32) then ((FX6_greatestDivisor x0 x1).bind (fun o12 => if o12 = (0 : Int32) then (some (x0)) else (if ¬ o12 = (0 : Int32) then some (x0 / o12) else none))) else ((FX6_greatestDivisor x0 x1).bind (fun o12 => if o12 = (0 : Int32) then (some (x1)) else (if ¬ o12 = (0 : Int32) then some (x1 / o12) else none)))
set_option maxHeartbeats 4000000 in
set_option maxRecDepth 100000 in
theorem kX6_inLowestTerms (l : Launch) (g : az_G)  (x0 : Int32) (x1 : Int32) (x2 : Int32) (o : Int32) (h : FX6_inLowestTerms x0 x1 x2 = some o) : az_I l yX6_inLowestTerms wsX6_inLowestTerms ({ frames := 1, cells := 0, slots := 0, locals := 25 } : Room) [.int x0, .int x1, .int x2] g ([]) o ([]) := by
  refine az_body (cc := cX6_inLowestTerms) (maxL := 5) (ret := (some .int)) (Qc := fun A => az_QI g ([]) o A) (by decide +kernel) rfl (Nat.le_of_ble_eq_true rfl) ?_
  intro p e s m args below meth c A hx hb hr hts hown hml hlocks hA hK hP hD hS ls hl
  have hl : lv_has ls 5 [(0, .int x0), (1, .int x1), (2, .int x2)] := hl
  unfold FX6_inLowestTerms at h
  refine lv_iload_n hx hb dX6_inLowestTerms_0 rfl (lv_at hl 2 rfl) ?_
  refine lv_if_eq (tgt := 8) hx hb dX6_inLowestTerms_1 (by decide) (fun c1 => ?_) (fun c1 => ?_)
  · replace h := az_pos c1 h
    refine lv_iload_n hx hb dX6_inLowestTerms_8 rfl (lv_at hl 0 rfl) ?_
    refine lv_istore_n (lv' := [(3, .int x0), (0, .int x0), (1, .int x1), (2, .int x2)]) hx hb dX6_inLowestTerms_9 rfl hl (by decide) rfl (fun ls hl => ?_)
    refine lv_iload_n hx hb dX6_inLowestTerms_10 rfl (lv_at hl 1 rfl) ?_
    refine lv_iload_n hx hb dX6_inLowestTerms_11 rfl (lv_at hl 2 rfl) ?_
    obtain ⟨o12, hc12, h⟩ := az_bnd h
    refine az_callS0 (As := [.int x0, .int x1]) (rest := []) ⟨hx, hb, hml, hown, hts⟩ hl.1 (kX6_greatestDivisor l g x0 x1 o12 hc12) (va_cwS 2 hts gX6_inLowestTerms_X6_greatestDivisor rfl rfl rfl (by decide +kernel) ⟨Nat.le_of_ble_eq_true rfl, Nat.le_of_ble_eq_true rfl⟩) rfl hK hP hS hA (Nat.le_of_ble_eq_true rfl) dX6_inLowestTerms_12 ⟨Nat.zero_le _, Nat.zero_le _⟩ rfl (fun H locs hP hS => ?_)
    refine lv_istore (lv' := [(4, .int o12), (3, .int x0), (0, .int x0), (1, .int x1), (2, .int x2)]) hx hb dX6_inLowestTerms_15 hl (by decide) rfl (fun ls hl => ?_)
    refine lv_iload hx hb dX6_inLowestTerms_17 (lv_at hl 0 rfl) ?_
    refine lv_if_ne (tgt := 26) hx hb dX6_inLowestTerms_19 (by decide) (fun c19 => ?_) (fun c19 => ?_)
    · replace h := az_neg c19 h
      refine lv_iload_n hx hb dX6_inLowestTerms_26 rfl (lv_at hl 1 rfl) ?_
      refine lv_iload hx hb dX6_inLowestTerms_27 (lv_at hl 0 rfl) ?_
      obtain ⟨c29, h⟩ := az_ite h
      refine lv_idiv hx hb dX6_inLowestTerms_29 c29 ?_
      have hP : va_P g.1 az_cl ([]) _ := hP
      have hD : va_D A ([]) := hD
      rw [← Option.some.inj h]
      exact az_iret hx hb hr hlocks hK hP hD hS dX6_inLowestTerms_30
    · replace h := az_pos c19 h
      refine lv_iload_n hx hb dX6_inLowestTerms_22 rfl (lv_at hl 1 rfl) ?_
      refine lv_goto (tgt := 30) hx hb dX6_inLowestTerms_23 (by decide) ?_
      have hP : va_P g.1 az_cl ([]) _ := hP
      have hD : va_D A ([]) := hD
      rw [← Option.some.inj h]
      exact az_iret hx hb hr hlocks hK hP hD hS dX6_inLowestTerms_30
  · replace h := az_neg c1 h
    refine lv_iload_n hx hb dX6_inLowestTerms_4 rfl (lv_at hl 1 rfl) ?_
    refine lv_goto (tgt := 9) hx hb dX6_inLowestTerms_5 (by decide) ?_
    refine lv_istore_n (lv' := [(3, .int x1), (0, .int x0), (1, .int x1), (2, .int x2)]) hx hb dX6_inLowestTerms_9 rfl hl (by decide) rfl (fun ls hl => ?_)
    refine lv_iload_n hx hb dX6_inLowestTerms_10 rfl (lv_at hl 1 rfl) ?_
    refine lv_iload_n hx hb dX6_inLowestTerms_11 rfl (lv_at hl 2 rfl) ?_
    obtain ⟨o12, hc12, h⟩ := az_bnd h
    refine az_callS0 (As := [.int x0, .int x1]) (rest := []) ⟨hx, hb, hml, hown, hts⟩ hl.1 (kX6_greatestDivisor l g x0 x1 o12 hc12) (va_cwS 2 hts gX6_inLowestTerms_X6_greatestDivisor rfl rfl rfl (by decide +kernel) ⟨Nat.le_of_ble_eq_true rfl, Nat.le_of_ble_eq_true rfl⟩) rfl hK hP hS hA (Nat.le_of_ble_eq_true rfl) dX6_inLowestTerms_12 ⟨Nat.zero_le _, Nat.zero_le _⟩ rfl (fun H locs hP hS => ?_)
    refine lv_istore (lv' := [(4, .int o12), (3, .int x1), (0, .int x0), (1, .int x1), (2, .int x2)]) hx hb dX6_inLowestTerms_15 hl (by decide) rfl (fun ls hl => ?_)
    refine lv_iload hx hb dX6_inLowestTerms_17 (lv_at hl 0 rfl) ?_
    refine lv_if_ne (tgt := 26) hx hb dX6_inLowestTerms_19 (by decide) (fun c19 => ?_) (fun c19 => ?_)
    · replace h := az_neg c19 h
      refine lv_iload_n hx hb dX6_inLowestTerms_26 rfl (lv_at hl 1 rfl) ?_
      refine lv_iload hx hb dX6_inLowestTerms_27 (lv_at hl 0 rfl) ?_
      obtain ⟨c29, h⟩ := az_ite h
      refine lv_idiv hx hb dX6_inLowestTerms_29 c29 ?_
      have hP : va_P g.1 az_cl ([]) _ := hP
      have hD : va_D A ([]) := hD
      rw [← Option.some.inj h]
      exact az_iret hx hb hr hlocks hK hP hD hS dX6_inLowestTerms_30
    · replace h := az_pos c19 h
      refine lv_iload_n hx hb dX6_inLowestTerms_22 rfl (lv_at hl 1 rfl) ?_
      refine lv_goto (tgt := 30) hx hb dX6_inLowestTerms_23 (by decide) ?_
      have hP : va_P g.1 az_cl ([]) _ := hP
      have hD : va_D A ([]) := hD
      rw [← Option.some.inj h]
      exact az_iret hx hb hr hlocks hK hP hD hS dX6_inLowestTerms_30

def FX6_meanAge (V : az_St) (x1 : Int32) (x2 : Int32) : Option (Nat × Int32) := (FX6_checkSegment V x1).bind (fun o2 => if o2 = 0 then ((FX5_useOf V x1).bind (fun o10 => if o10 ≤ (0 : Int32) then ((FX6_checkElement (0 : Int32)).bind (fun o23 => if o23 = 0 then ((FX5_sumOfAges V x1).bind (fun o31 => (FX6_inLowestTerms o31 o10 x2).bind (fun o36 => some (0, o36)))) else some (o23, (0 : Int32)))) else ((FX6_checkElement (1 : Int32)).bind (fun o23 => if o23 = 0 then ((FX5_sumOfAges V x1).bind (fun o31 => (FX6_inLowestTerms o31 o10 x2).bind (fun o36 => some (0, o36)))) else some (o23, (0 : Int32)))))) else some (o2, (0 : Int32)))
theorem inX6_meanAge_RX6 : ∀ w ∈ wsX60, w ∈ wsX6_meanAge := az_inr [56, 57, 58] (by decide +kernel)
set_option maxHeartbeats 4000000 in
set_option maxRecDepth 100000 in
theorem kX6_meanAge (l : Launch) (hst : l.stackTraces = false) (g : az_G) (sa : Nat → Nat) (ax : Nat → Nat) (an : Nat → Nat) (au : Nat → Nat) (Y : va_W) (V : az_St) (x1 : Int32) (x2 : Int32) (o : Nat × Int32) (h : FX6_meanAge V x1 x2 = some o) : az_TI l yX6_meanAge wsX6_meanAge ({ frames := 8, cells := 2, slots := 12, locals := 141 } : Room) [.ref (ax 0), .int x1, .int x2] g sa (az_w6 g ax an au V Y) o.1 o.2 (az_w6 g ax an au V Y) 2 := by
  refine az_bodyT (cc := cX6_meanAge) (maxL := 4) (ret := (some .int)) (mc := 2) (ms := 12) (Qc := fun A => az_QTI g (az_w6 g ax an au V Y) o.1 o.2 A) (XC := fun A => az_XT g (az_w6 g ax an au V Y) o.1 A) (by decide +kernel) rfl (Nat.le_of_ble_eq_true rfl) ?_
  intro p e s m args below meth c A hx hb hr hts hown hml hlocks hex hcx hA hK hP hD hS ls hl
  have hl : lv_has ls 4 [(0, .ref (ax 0)), (1, .int x1), (2, .int x2)] := hl
  unfold FX6_meanAge at h
  refine lv_aload_n hx hb dX6_meanAge_0 rfl (lv_at hl 0 rfl) ?_
  refine lv_iload_n hx hb dX6_meanAge_1 rfl (lv_at hl 1 rfl) ?_
  obtain ⟨o2, hc2, h⟩ := az_bnd h
  refine az_callVT (As := [.int x1]) (rest := []) ⟨hx, hb, hml, hown, hts⟩ hl.1 (kX6_checkSegment l hst g sa ax an au Y V x1 o2 hc2) (cwV 1 hts gX6_meanAge_X6_checkSegment rfl rfl rfl (by decide +kernel) ⟨(Nat.le_of_ble_eq_true rfl), (Nat.le_of_ble_eq_true rfl)⟩) rfl hK hcx hP hD hS hA 0 rfl rfl rfl (Nat.le_of_ble_eq_true rfl) dX6_meanAge_2 ⟨(Nat.le_of_ble_eq_true rfl), (Nat.le_of_ble_eq_true rfl)⟩ rfl (fun n2 ce q9 H locs hP hS hce hcv hcl => ?_) (fun c2 H locs hP hS => ?_)
  · replace h := az_neg n2 h
    have hP : va_P g.1 az_cl (az_w6 g ax an au V Y) _ := hP
    have hD : va_D A (az_w6 g ax an au V Y) := hD
    rw [← Option.some.inj h]
    exact az_outT n2 hex hlocks hce hcv hcl hK hP hD hS (Nat.le_of_ble_eq_true rfl) (Nat.le_of_ble_eq_true rfl)
  replace h := az_pos c2 h
  refine lv_aload_n hx hb dX6_meanAge_5 rfl (lv_at hl 0 rfl) ?_
  refine va_get (D := g.1) (ci := 6) (v := .ref (an 0)) (C := RX6) (T := TX6) (N := 3) hx hb hts inX6_meanAge_RX6 hown hK hP 0 rfl rfl 0 (Nat.le_of_ble_eq_true rfl) (hts _ (List.mem_of_getElem? (i := 1) rfl)) (fun _ h9 => h9) rfl dX6_meanAge_6 ?_
  refine lv_iload_n hx hb dX6_meanAge_9 rfl (lv_at hl 1 rfl) ?_
  obtain ⟨o10, hc10, h⟩ := az_bnd h
  refine az_callPi (w2 := az_w6 g ax an au V Y) (As := [.int x1]) (rest := []) ⟨hx, hb, hml, hown, hts⟩ hl.1 (kX5_useOf l g an V x1 o10 hc10) (cwV 1 hts gX6_meanAge_X5_useOf rfl rfl rfl (by decide +kernel) ⟨(Nat.le_of_ble_eq_true rfl), (Nat.le_of_ble_eq_true rfl)⟩) rfl hK hP hD hS hA (az_pm (az_x ax an au :: (az_cV g an V).take 0) (az_cV g an V) ((az_cV g an V).drop 20 ++ Y)) (az_pm (az_x ax an au :: (az_cV g an V).take 0) (az_cV g an V) ((az_cV g an V).drop 20 ++ Y)).symm 0 rfl rfl rfl (Nat.le_of_ble_eq_true rfl) dX6_meanAge_10 ⟨(Nat.le_of_ble_eq_true rfl), (Nat.le_of_ble_eq_true rfl)⟩ rfl (fun H locs hP hD hS => ?_)
  have hP : va_P g.1 az_cl (az_w6 g ax an au V Y) _ := hP
  have hD : va_D A (az_w6 g ax an au V Y) := hD
  refine lv_istore_n (lv' := [(3, .int o10), (0, .ref (ax 0)), (1, .int x1), (2, .int x2)]) hx hb dX6_meanAge_13 rfl hl (by decide) rfl (fun ls hl => ?_)
  refine lv_iload_n hx hb dX6_meanAge_14 rfl (lv_at hl 0 rfl) ?_
  refine lv_if_le (tgt := 22) hx hb dX6_meanAge_15 (by decide) (fun c15 => ?_) (fun c15 => ?_)
  · replace h := az_pos c15 h
    refine lv_iconst (v := (0 : Int32)) hx hb dX6_meanAge_22 (by decide) ?_
    obtain ⟨o23, hc23, h⟩ := az_bnd h
    refine az_callST (As := [.int (0 : Int32)]) (rest := []) ⟨hx, hb, hml, hown, hts⟩ hl.1 (kX6_checkElement l hst g sa (0 : Int32) o23 hc23) (va_cwS 1 hts gX6_meanAge_X6_checkElement rfl rfl rfl (by decide +kernel) ⟨(Nat.le_of_ble_eq_true rfl), (Nat.le_of_ble_eq_true rfl)⟩) rfl hK hcx hP hS hA (Nat.le_of_ble_eq_true rfl) dX6_meanAge_23 ⟨(Nat.le_of_ble_eq_true rfl), (Nat.le_of_ble_eq_true rfl)⟩ rfl (fun n23 ce q9 H locs hP hS hce hcv hcl => ?_) (fun c23 H locs hP hS => ?_)
    · replace h := az_neg n23 h
      have hP : va_P g.1 az_cl (az_w6 g ax an au V Y) _ := hP
      have hD : va_D A (az_w6 g ax an au V Y) := hD
      rw [← Option.some.inj h]
      exact az_outT n23 hex hlocks hce hcv hcl hK hP hD hS (Nat.le_of_ble_eq_true rfl) (Nat.le_of_ble_eq_true rfl)
    replace h := az_pos c23 h
    refine lv_aload_n hx hb dX6_meanAge_26 rfl (lv_at hl 1 rfl) ?_
    refine va_get (D := g.1) (ci := 6) (v := .ref (an 0)) (C := RX6) (T := TX6) (N := 3) hx hb hts inX6_meanAge_RX6 hown hK hP 0 rfl rfl 0 (Nat.le_of_ble_eq_true rfl) (hts _ (List.mem_of_getElem? (i := 1) rfl)) (fun _ h9 => h9) rfl dX6_meanAge_27 ?_
    refine lv_iload_n hx hb dX6_meanAge_30 rfl (lv_at hl 2 rfl) ?_
    obtain ⟨o31, hc31, h⟩ := az_bnd h
    refine az_callPi (w2 := az_w6 g ax an au V Y) (As := [.int x1]) (rest := []) ⟨hx, hb, hml, hown, hts⟩ hl.1 (kX5_sumOfAges l g an V x1 o31 hc31) (cwV 1 hts gX6_meanAge_X5_sumOfAges rfl rfl rfl (by decide +kernel) ⟨(Nat.le_of_ble_eq_true rfl), (Nat.le_of_ble_eq_true rfl)⟩) rfl hK hP hD hS hA (az_pm (az_x ax an au :: (az_cV g an V).take 0) (az_cV g an V) ((az_cV g an V).drop 20 ++ Y)) (az_pm (az_x ax an au :: (az_cV g an V).take 0) (az_cV g an V) ((az_cV g an V).drop 20 ++ Y)).symm 0 rfl rfl rfl (Nat.le_of_ble_eq_true rfl) dX6_meanAge_31 ⟨(Nat.le_of_ble_eq_true rfl), (Nat.le_of_ble_eq_true rfl)⟩ rfl (fun H locs hP hD hS => ?_)
    have hP : va_P g.1 az_cl (az_w6 g ax an au V Y) _ := hP
    have hD : va_D A (az_w6 g ax an au V Y) := hD
    refine lv_iload_n hx hb dX6_meanAge_34 rfl (lv_at hl 0 rfl) ?_
    refine lv_iload_n hx hb dX6_meanAge_35 rfl (lv_at hl 3 rfl) ?_
    obtain ⟨o36, hc36, h⟩ := az_bnd h
    refine az_callS0 (As := [.int o31, .int o10, .int x2]) (rest := []) ⟨hx, hb, hml, hown, hts⟩ hl.1 (kX6_inLowestTerms l g o31 o10 x2 o36 hc36) (va_cwS 3 hts gX6_meanAge_X6_inLowestTerms rfl rfl rfl (by decide +kernel) ⟨(Nat.le_of_ble_eq_true rfl), (Nat.le_of_ble_eq_true rfl)⟩) rfl hK hP hS hA (Nat.le_of_ble_eq_true rfl) dX6_meanAge_36 ⟨(Nat.le_of_ble_eq_true rfl), (Nat.le_of_ble_eq_true rfl)⟩ rfl (fun H locs hP hS => ?_)
    have hP : va_P g.1 az_cl (az_w6 g ax an au V Y) _ := hP
    have hD : va_D A (az_w6 g ax an au V Y) := hD
    rw [← Option.some.inj h]
    exact az_iretT hx hb hr hlocks hK hP hD hS dX6_meanAge_39 (Nat.le_of_ble_eq_true rfl) (Nat.le_of_ble_eq_true rfl)
  · replace h := az_neg c15 h
    refine lv_iconst (v := (1 : Int32)) hx hb dX6_meanAge_18 (by decide) ?_
    refine lv_goto (tgt := 23) hx hb dX6_meanAge_19 (by decide) ?_
    obtain ⟨o23, hc23, h⟩ := az_bnd h
    refine az_callST (As := [.int (1 : Int32)]) (rest := []) ⟨hx, hb, hml, hown, hts⟩ hl.1 (kX6_checkElement l hst g sa (1 : Int32) o23 hc23) (va_cwS 1 hts gX6_meanAge_X6_checkElement rfl rfl rfl (by decide +kernel) ⟨(Nat.le_of_ble_eq_true rfl), (Nat.le_of_ble_eq_true rfl)⟩) rfl hK hcx hP hS hA (Nat.le_of_ble_eq_true rfl) dX6_meanAge_23 ⟨(Nat.le_of_ble_eq_true rfl), (Nat.le_of_ble_eq_true rfl)⟩ rfl (fun n23 ce q9 H locs hP hS hce hcv hcl => ?_) (fun c23 H locs hP hS => ?_)
    · replace h := az_neg n23 h
      have hP : va_P g.1 az_cl (az_w6 g ax an au V Y) _ := hP
      have hD : va_D A (az_w6 g ax an au V Y) := hD
      rw [← Option.some.inj h]
      exact az_outT n23 hex hlocks hce hcv hcl hK hP hD hS (Nat.le_of_ble_eq_true rfl) (Nat.le_of_ble_eq_true rfl)
    replace h := az_pos c23 h
    refine lv_aload_n hx hb dX6_meanAge_26 rfl (lv_at hl 1 rfl) ?_
    refine va_get (D := g.1) (ci := 6) (v := .ref (an 0)) (C := RX6) (T := TX6) (N := 3) hx hb hts inX6_meanAge_RX6 hown hK hP 0 rfl rfl 0 (Nat.le_of_ble_eq_true rfl) (hts _ (List.mem_of_getElem? (i := 1) rfl)) (fun _ h9 => h9) rfl dX6_meanAge_27 ?_
    refine lv_iload_n hx hb dX6_meanAge_30 rfl (lv_at hl 2 rfl) ?_
    obtain ⟨o31, hc31, h⟩ := az_bnd h
    refine az_callPi (w2 := az_w6 g ax an au V Y) (As := [.int x1]) (rest := []) ⟨hx, hb, hml, hown, hts⟩ hl.1 (kX5_sumOfAges l g an V x1 o31 hc31) (cwV 1 hts gX6_meanAge_X5_sumOfAges rfl rfl rfl (by decide +kernel) ⟨(Nat.le_of_ble_eq_true rfl), (Nat.le_of_ble_eq_true rfl)⟩) rfl hK hP hD hS hA (az_pm (az_x ax an au :: (az_cV g an V).take 0) (az_cV g an V) ((az_cV g an V).drop 20 ++ Y)) (az_pm (az_x ax an au :: (az_cV g an V).take 0) (az_cV g an V) ((az_cV g an V).drop 20 ++ Y)).symm 0 rfl rfl rfl (Nat.le_of_ble_eq_true rfl) dX6_meanAge_31 ⟨(Nat.le_of_ble_eq_true rfl), (Nat.le_of_ble_eq_true rfl)⟩ rfl (fun H locs hP hD hS => ?_)
    have hP : va_P g.1 az_cl (az_w6 g ax an au V Y) _ := hP
    have hD : va_D A (az_w6 g ax an au V Y) := hD
    refine lv_iload_n hx hb dX6_meanAge_34 rfl (lv_at hl 0 rfl) ?_
    refine lv_iload_n hx hb dX6_meanAge_35 rfl (lv_at hl 3 rfl) ?_
    obtain ⟨o36, hc36, h⟩ := az_bnd h
    refine az_callS0 (As := [.int o31, .int o10, .int x2]) (rest := []) ⟨hx, hb, hml, hown, hts⟩ hl.1 (kX6_inLowestTerms l g o31 o10 x2 o36 hc36) (va_cwS 3 hts gX6_meanAge_X6_inLowestTerms rfl rfl rfl (by decide +kernel) ⟨(Nat.le_of_ble_eq_true rfl), (Nat.le_of_ble_eq_true rfl)⟩) rfl hK hP hS hA (Nat.le_of_ble_eq_true rfl) dX6_meanAge_36 ⟨(Nat.le_of_ble_eq_true rfl), (Nat.le_of_ble_eq_true rfl)⟩ rfl (fun H locs hP hS => ?_)
    have hP : va_P g.1 az_cl (az_w6 g ax an au V Y) _ := hP
    have hD : va_D A (az_w6 g ax an au V Y) := hD
    rw [← Option.some.inj h]
    exact az_iretT hx hb hr hlocks hK hP hD hS dX6_meanAge_39 (Nat.le_of_ble_eq_true rfl) (Nat.le_of_ble_eq_true rfl)

def FX6_block (V : az_St) (x1 : Int32) (x2 : Int32) : Option (Nat × Int32) := (FX6_checkAddress V x1).bind (fun o2 => if o2 = 0 then (if x2 = (0 : Int32) then (if az_in x1 160 = true then some (0, (V 5) x1.toNatClampNeg) else none) else (if x2 = (1 : Int32) then (if az_in x1 160 = true then some (0, (V 6) x1.toNatClampNeg) else none) else (if x2 = (2 : Int32) then (if az_in x1 160 = true then some (0, (V 7) x1.toNatClampNeg) else none) else (if x2 = (3 : Int32) then (if az_in x1 160 = true then some (0, (V 8) x1.toNatClampNeg) else none) else (if x2 = (4 : Int32) then (if az_in x1 160 = true then some (0, (V 9) x1.toNatClampNeg) else none) else (some (2, (0 : Int32)))))))) else some (o2, (0 : Int32)))
theorem inX6_block_RX0 : ∀ w ∈ wsX00, w ∈ wsX6_block := az_inr [37, 38, 39, 40, 41, 42] (by decide +kernel)
theorem inX6_block_RX5 : ∀ w ∈ wsX50, w ∈ wsX6_block := az_inr [26, 27, 28, 29, 30, 31, 32, 33, 34, 35, 36] (by decide +kernel)
theorem inX6_block_RX6 : ∀ w ∈ wsX60, w ∈ wsX6_block := az_inr [23, 24, 25] (by decide +kernel)
set_option maxHeartbeats 4000000 in
set_option maxRecDepth 100000 in
theorem kX6_block (l : Launch) (hst : l.stackTraces = false) (g : az_G) (sa : Nat → Nat) (ax : Nat → Nat) (an : Nat → Nat) (au : Nat → Nat) (Y : va_W) (V : az_St) (x1 : Int32) (x2 : Int32) (o : Nat × Int32) (h : FX6_block V x1 x2 = some o) : az_TI l yX6_block wsX6_block ({ frames := 8, cells := 2, slots := 12, locals := 141 } : Room) [.ref (ax 0), .int x1, .int x2] g sa (az_w6 g ax an au V Y) o.1 o.2 (az_w6 g ax an au V Y) 2 := by
  refine az_bodyT (cc := cX6_block) (maxL := 3) (ret := (some .int)) (mc := 2) (ms := 12) (Qc := fun A => az_QTI g (az_w6 g ax an au V Y) o.1 o.2 A) (XC := fun A => az_XT g (az_w6 g ax an au V Y) o.1 A) (by decide +kernel) rfl (Nat.le_of_ble_eq_true rfl) ?_
  intro p e s m args below meth c A hx hb hr hts hown hml hlocks hex hcx hA hK hP hD hS ls hl
  have hl : lv_has ls 3 [(0, .ref (ax 0)), (1, .int x1), (2, .int x2)] := hl
  unfold FX6_block at h
  refine lv_aload_n hx hb dX6_block_0 rfl (lv_at hl 0 rfl) ?_
  refine lv_iload_n hx hb dX6_block_1 rfl (lv_at hl 1 rfl) ?_
  obtain ⟨o2, hc2, h⟩ := az_bnd h
  refine az_callVT (As := [.int x1]) (rest := []) ⟨hx, hb, hml, hown, hts⟩ hl.1 (kX6_checkAddress l hst g sa ax an au Y V x1 o2 hc2) (cwV 1 hts gX6_block_X6_checkAddress rfl rfl rfl (by decide +kernel) ⟨(Nat.le_of_ble_eq_true rfl), (Nat.le_of_ble_eq_true rfl)⟩) rfl hK hcx hP hD hS hA 0 rfl rfl rfl (Nat.le_of_ble_eq_true rfl) dX6_block_2 ⟨(Nat.le_of_ble_eq_true rfl), (Nat.le_of_ble_eq_true rfl)⟩ rfl (fun n2 ce q9 H locs hP hS hce hcv hcl => ?_) (fun c2 H locs hP hS => ?_)
  · replace h := az_neg n2 h
    have hP : va_P g.1 az_cl (az_w6 g ax an au V Y) _ := hP
    have hD : va_D A (az_w6 g ax an au V Y) := hD
    rw [← Option.some.inj h]
    exact az_outT n2 hex hlocks hce hcv hcl hK hP hD hS (Nat.le_of_ble_eq_true rfl) (Nat.le_of_ble_eq_true rfl)
  replace h := az_pos c2 h
  refine lv_iload_n hx hb dX6_block_5 rfl (lv_at hl 2 rfl) ?_
  by_cases c6_0 : x2 = (0 : Int32)
  · replace h := az_pos c6_0 h
    refine lv_tableIn (tgt := 40) (off := 34) hx hb dX6_block_6 (by rw [c6_0]; decide) (by rw [c6_0]; decide) (by rw [c6_0]; rfl) (by decide) ?_
    refine lv_aload_n hx hb dX6_block_40 rfl (lv_at hl 0 rfl) ?_
    refine va_get (D := g.1) (ci := 6) (v := .ref (an 0)) (C := RX6) (T := TX6) (N := 3) hx hb hts inX6_block_RX6 hown hK hP 0 rfl rfl 0 (Nat.le_of_ble_eq_true rfl) (hts _ (List.mem_of_getElem? (i := 3) rfl)) (fun _ h9 => h9) rfl dX6_block_41 ?_
    refine va_get (D := g.1) (ci := 5) (v := .ref (an 6)) (C := RX5) (T := TX5) (N := 11) hx hb hts inX6_block_RX5 hown hK hP 1 rfl rfl 1 (Nat.le_of_ble_eq_true rfl) (hts _ (List.mem_of_getElem? (i := 4) rfl)) (fun _ h9 => h9) rfl dX6_block_44 ?_
    refine va_get (D := g.1) (ci := 0) (v := .ref (an 7)) (C := RX0) (T := TX0) (N := 6) hx hb hts inX6_block_RX0 hown hK hP 7 rfl rfl 0 (Nat.le_of_ble_eq_true rfl) (hts _ (List.mem_of_getElem? (i := 5) rfl)) (fun _ h9 => h9) rfl dX6_block_47 ?_
    refine lv_iload_n hx hb dX6_block_50 rfl (lv_at hl 1 rfl) ?_
    obtain ⟨i51, h⟩ := az_ite h
    refine va_iald (D := g.1) (f := (V 5)) hx hb hK hP 8 0 rfl rfl (az_vin i51) dX6_block_51 ?_
    have hP : va_P g.1 az_cl (az_w6 g ax an au V Y) _ := hP
    have hD : va_D A (az_w6 g ax an au V Y) := hD
    rw [← Option.some.inj h]
    exact az_iretT hx hb hr hlocks hK hP hD hS dX6_block_52 (Nat.le_of_ble_eq_true rfl) (Nat.le_of_ble_eq_true rfl)
  · replace h := az_neg c6_0 h
    by_cases c6_1 : x2 = (1 : Int32)
    · replace h := az_pos c6_1 h
      refine lv_tableIn (tgt := 53) (off := 47) hx hb dX6_block_6 (by rw [c6_1]; decide) (by rw [c6_1]; decide) (by rw [c6_1]; rfl) (by decide) ?_
      refine lv_aload_n hx hb dX6_block_53 rfl (lv_at hl 0 rfl) ?_
      refine va_get (D := g.1) (ci := 6) (v := .ref (an 0)) (C := RX6) (T := TX6) (N := 3) hx hb hts inX6_block_RX6 hown hK hP 0 rfl rfl 0 (Nat.le_of_ble_eq_true rfl) (hts _ (List.mem_of_getElem? (i := 3) rfl)) (fun _ h9 => h9) rfl dX6_block_54 ?_
      refine va_get (D := g.1) (ci := 5) (v := .ref (an 6)) (C := RX5) (T := TX5) (N := 11) hx hb hts inX6_block_RX5 hown hK hP 1 rfl rfl 1 (Nat.le_of_ble_eq_true rfl) (hts _ (List.mem_of_getElem? (i := 4) rfl)) (fun _ h9 => h9) rfl dX6_block_57 ?_
      refine va_get (D := g.1) (ci := 0) (v := .ref (an 8)) (C := RX0) (T := TX0) (N := 6) hx hb hts inX6_block_RX0 hown hK hP 7 rfl rfl 1 (Nat.le_of_ble_eq_true rfl) (hts _ (List.mem_of_getElem? (i := 6) rfl)) (fun _ h9 => h9) rfl dX6_block_60 ?_
      refine lv_iload_n hx hb dX6_block_63 rfl (lv_at hl 1 rfl) ?_
      obtain ⟨i64, h⟩ := az_ite h
      refine va_iald (D := g.1) (f := (V 6)) hx hb hK hP 9 0 rfl rfl (az_vin i64) dX6_block_64 ?_
      have hP : va_P g.1 az_cl (az_w6 g ax an au V Y) _ := hP
      have hD : va_D A (az_w6 g ax an au V Y) := hD
      rw [← Option.some.inj h]
      exact az_iretT hx hb hr hlocks hK hP hD hS dX6_block_65 (Nat.le_of_ble_eq_true rfl) (Nat.le_of_ble_eq_true rfl)
    · replace h := az_neg c6_1 h
      by_cases c6_2 : x2 = (2 : Int32)
      · replace h := az_pos c6_2 h
        refine lv_tableIn (tgt := 66) (off := 60) hx hb dX6_block_6 (by rw [c6_2]; decide) (by rw [c6_2]; decide) (by rw [c6_2]; rfl) (by decide) ?_
        refine lv_aload_n hx hb dX6_block_66 rfl (lv_at hl 0 rfl) ?_
        refine va_get (D := g.1) (ci := 6) (v := .ref (an 0)) (C := RX6) (T := TX6) (N := 3) hx hb hts inX6_block_RX6 hown hK hP 0 rfl rfl 0 (Nat.le_of_ble_eq_true rfl) (hts _ (List.mem_of_getElem? (i := 3) rfl)) (fun _ h9 => h9) rfl dX6_block_67 ?_
        refine va_get (D := g.1) (ci := 5) (v := .ref (an 6)) (C := RX5) (T := TX5) (N := 11) hx hb hts inX6_block_RX5 hown hK hP 1 rfl rfl 1 (Nat.le_of_ble_eq_true rfl) (hts _ (List.mem_of_getElem? (i := 4) rfl)) (fun _ h9 => h9) rfl dX6_block_70 ?_
        refine va_get (D := g.1) (ci := 0) (v := .ref (an 9)) (C := RX0) (T := TX0) (N := 6) hx hb hts inX6_block_RX0 hown hK hP 7 rfl rfl 2 (Nat.le_of_ble_eq_true rfl) (hts _ (List.mem_of_getElem? (i := 7) rfl)) (fun _ h9 => h9) rfl dX6_block_73 ?_
        refine lv_iload_n hx hb dX6_block_76 rfl (lv_at hl 1 rfl) ?_
        obtain ⟨i77, h⟩ := az_ite h
        refine va_iald (D := g.1) (f := (V 7)) hx hb hK hP 10 0 rfl rfl (az_vin i77) dX6_block_77 ?_
        have hP : va_P g.1 az_cl (az_w6 g ax an au V Y) _ := hP
        have hD : va_D A (az_w6 g ax an au V Y) := hD
        rw [← Option.some.inj h]
        exact az_iretT hx hb hr hlocks hK hP hD hS dX6_block_78 (Nat.le_of_ble_eq_true rfl) (Nat.le_of_ble_eq_true rfl)
      · replace h := az_neg c6_2 h
        by_cases c6_3 : x2 = (3 : Int32)
        · replace h := az_pos c6_3 h
          refine lv_tableIn (tgt := 79) (off := 73) hx hb dX6_block_6 (by rw [c6_3]; decide) (by rw [c6_3]; decide) (by rw [c6_3]; rfl) (by decide) ?_
          refine lv_aload_n hx hb dX6_block_79 rfl (lv_at hl 0 rfl) ?_
          refine va_get (D := g.1) (ci := 6) (v := .ref (an 0)) (C := RX6) (T := TX6) (N := 3) hx hb hts inX6_block_RX6 hown hK hP 0 rfl rfl 0 (Nat.le_of_ble_eq_true rfl) (hts _ (List.mem_of_getElem? (i := 3) rfl)) (fun _ h9 => h9) rfl dX6_block_80 ?_
          refine va_get (D := g.1) (ci := 5) (v := .ref (an 6)) (C := RX5) (T := TX5) (N := 11) hx hb hts inX6_block_RX5 hown hK hP 1 rfl rfl 1 (Nat.le_of_ble_eq_true rfl) (hts _ (List.mem_of_getElem? (i := 4) rfl)) (fun _ h9 => h9) rfl dX6_block_83 ?_
          refine va_get (D := g.1) (ci := 0) (v := .ref (an 10)) (C := RX0) (T := TX0) (N := 6) hx hb hts inX6_block_RX0 hown hK hP 7 rfl rfl 3 (Nat.le_of_ble_eq_true rfl) (hts _ (List.mem_of_getElem? (i := 8) rfl)) (fun _ h9 => h9) rfl dX6_block_86 ?_
          refine lv_iload_n hx hb dX6_block_89 rfl (lv_at hl 1 rfl) ?_
          obtain ⟨i90, h⟩ := az_ite h
          refine va_iald (D := g.1) (f := (V 8)) hx hb hK hP 11 0 rfl rfl (az_vin i90) dX6_block_90 ?_
          have hP : va_P g.1 az_cl (az_w6 g ax an au V Y) _ := hP
          have hD : va_D A (az_w6 g ax an au V Y) := hD
          rw [← Option.some.inj h]
          exact az_iretT hx hb hr hlocks hK hP hD hS dX6_block_91 (Nat.le_of_ble_eq_true rfl) (Nat.le_of_ble_eq_true rfl)
        · replace h := az_neg c6_3 h
          by_cases c6_4 : x2 = (4 : Int32)
          · replace h := az_pos c6_4 h
            refine lv_tableIn (tgt := 92) (off := 86) hx hb dX6_block_6 (by rw [c6_4]; decide) (by rw [c6_4]; decide) (by rw [c6_4]; rfl) (by decide) ?_
            refine lv_aload_n hx hb dX6_block_92 rfl (lv_at hl 0 rfl) ?_
            refine va_get (D := g.1) (ci := 6) (v := .ref (an 0)) (C := RX6) (T := TX6) (N := 3) hx hb hts inX6_block_RX6 hown hK hP 0 rfl rfl 0 (Nat.le_of_ble_eq_true rfl) (hts _ (List.mem_of_getElem? (i := 3) rfl)) (fun _ h9 => h9) rfl dX6_block_93 ?_
            refine va_get (D := g.1) (ci := 5) (v := .ref (an 6)) (C := RX5) (T := TX5) (N := 11) hx hb hts inX6_block_RX5 hown hK hP 1 rfl rfl 1 (Nat.le_of_ble_eq_true rfl) (hts _ (List.mem_of_getElem? (i := 4) rfl)) (fun _ h9 => h9) rfl dX6_block_96 ?_
            refine va_get (D := g.1) (ci := 0) (v := .ref (an 11)) (C := RX0) (T := TX0) (N := 6) hx hb hts inX6_block_RX0 hown hK hP 7 rfl rfl 4 (Nat.le_of_ble_eq_true rfl) (hts _ (List.mem_of_getElem? (i := 9) rfl)) (fun _ h9 => h9) rfl dX6_block_99 ?_
            refine lv_iload_n hx hb dX6_block_102 rfl (lv_at hl 1 rfl) ?_
            obtain ⟨i103, h⟩ := az_ite h
            refine va_iald (D := g.1) (f := (V 9)) hx hb hK hP 12 0 rfl rfl (az_vin i103) dX6_block_103 ?_
            have hP : va_P g.1 az_cl (az_w6 g ax an au V Y) _ := hP
            have hD : va_D A (az_w6 g ax an au V Y) := hD
            rw [← Option.some.inj h]
            exact az_iretT hx hb hr hlocks hK hP hD hS dX6_block_104 (Nat.le_of_ble_eq_true rfl) (Nat.le_of_ble_eq_true rfl)
          · replace h := az_neg c6_4 h
            refine lv_tableOut (tgt := 105) hx hb dX6_block_6 (by have n0 := lv_neT (a := 0) c6_0 (by decide); have n1 := lv_neT (a := 1) c6_1 (by decide); have n2 := lv_neT (a := 2) c6_2 (by decide); have n3 := lv_neT (a := 3) c6_3 (by decide); have n4 := lv_neT (a := 4) c6_4 (by decide); omega) (by decide) ?_
            have hP : va_P g.1 az_cl (az_w6 g ax an au V Y) _ := hP
            have hD : va_D A (az_w6 g ax an au V Y) := hD
            rw [← Option.some.inj h]
            exact az_throwS (k := 2) (ws' := az_w6 g ax an au V Y) (by decide) rfl (by decide +kernel) hx hb hst hown (hcx.2.2.2.1 3) (hts _ (List.mem_of_getElem? (i := 1) rfl)) (hts _ (List.mem_of_getElem? (i := 2) rfl)) hts (fun _ h => List.mem_cons_of_mem _ (List.mem_append_left _ (List.mem_append_right _ h))) thno_S_174 thgd_S_170_174 hcx hK hP hD hS (hl.1.trans hml.symm) dX6_block_105 dX6_block_108 dX6_block_109 dX6_block_111 dX6_block_114 hex (Nat.le_of_ble_eq_true rfl) (Nat.le_of_ble_eq_true rfl) (Nat.le_of_ble_eq_true rfl) (Nat.le_of_ble_eq_true rfl) hlocks (Nat.le_of_ble_eq_true rfl) (Nat.le_of_ble_eq_true rfl)

def FX6_neededBy_L20 : Nat → az_St → Int32 → Int32 → Int32 → Option (Nat × Int32)
  | 0, _, _, _, _ => none
  | n + 1, V, x1, y2, y3 => if (4 : Int32) ≤ y3 then (if az_in x1 160 = true then if (V 5) x1.toNatClampNeg = (1 : Int32) then (some (0, y2 ||| (65536 : Int32))) else (some (0, y2)) else none) else (if az_in x1 160 = true then (FX4_has V y3 ((V 6) x1.toNatClampNeg) x1).bind (fun o46 => if o46 = (0 : Int32) then (FX6_neededBy_L20 n V x1 y2 (y3 + (1 : Int32))) else (FX6_neededBy_L20 n V x1 (y2 ||| ((1 : Int32) <<< (((8 : Int32) + y3) &&& 31))) (y3 + (1 : Int32)))) else none)
theorem FX6_neededBy_L20_s (n : Nat) (V : az_St) (x1 : Int32) (y2 : Int32) (y3 : Int32) : FX6_neededBy_L20 (n + 1) V x1 y2 y3 = (if (4 : Int32) ≤ y3 then (if az_in x1 160 = true then if (V 5) x1.toNatClampNeg = (1 : Int32) then (some (0, y2 ||| (65536 : Int32))) else (some (0, y2)) else none) else (if az_in x1 160 = true then (FX4_has V y3 ((V 6) x1.toNatClampNeg) x1).bind (fun o46 => if o46 = (0 : Int32) then (FX6_neededBy_L20 n V x1 y2 (y3 + (1 : Int32))) else (FX6_neededBy_L20 n V x1 (y2 ||| ((1 : Int32) <<< (((8 : Int32) + y3) &&& 31))) (y3 + (1 : Int32)))) else none)) := rfl
def FX6_neededBy (V : az_St) (x1 : Int32) : Option (Nat × Int32) := (FX6_checkAddress V x1).bind (fun o2 => if o2 = 0 then (if az_in x1 160 = true then FX6_neededBy_L20 az_fuel V x1 ((V 10) x1.toNatClampNeg) (0 : Int32) else none) else some (o2, (0 : Int32)))
theorem inX6_neededBy_RX0 : ∀ w ∈ wsX00, w ∈ wsX6_neededBy := az_inr [45, 46, 47, 48, 49, 50] (by decide +kernel)
theorem inX6_neededBy_RX5 : ∀ w ∈ wsX50, w ∈ wsX6_neededBy := az_inr [34, 35, 36, 37, 38, 39, 40, 41, 42, 43, 44] (by decide +kernel)
theorem inX6_neededBy_RX6 : ∀ w ∈ wsX60, w ∈ wsX6_neededBy := az_inr [31, 32, 33] (by decide +kernel)
set_option maxHeartbeats 4000000 in
set_option maxRecDepth 100000 in
theorem kX6_neededBy (l : Launch) (hst : l.stackTraces = false) (g : az_G) (sa : Nat → Nat) (ax : Nat → Nat) (an : Nat → Nat) (au : Nat → Nat) (Y : va_W) (V : az_St) (x1 : Int32) (o : Nat × Int32) (h : FX6_neededBy V x1 = some o) : az_TI l yX6_neededBy wsX6_neededBy ({ frames := 8, cells := 1, slots := 6, locals := 141 } : Room) [.ref (ax 0), .int x1] g sa (az_w6 g ax an au V Y) o.1 o.2 (az_w6 g ax an au V Y) 1 := by
  refine az_bodyT (cc := cX6_neededBy) (maxL := 4) (ret := (some .int)) (mc := 1) (ms := 6) (Qc := fun A => az_QTI g (az_w6 g ax an au V Y) o.1 o.2 A) (XC := fun A => az_XT g (az_w6 g ax an au V Y) o.1 A) (by decide +kernel) rfl (Nat.le_of_ble_eq_true rfl) ?_
  intro p e s m args below meth c A hx hb hr hts hown hml hlocks hex hcx hA hK hP hD hS ls hl
  have hl : lv_has ls 4 [(0, .ref (ax 0)), (1, .int x1)] := hl
  unfold FX6_neededBy at h
  have hL20 : ∀ (n : Nat) (y2 : Int32) (y3 : Int32) (H : Heap) (locs : List Loc) (ls : Array Slot), FX6_neededBy_L20 n V x1 y2 y3 = some o → va_P g.1 az_cl (az_w6 g ax an au V Y) H → va_D A (az_w6 g ax an au V Y) → va_S A s.heap H locs → lv_has ls 4 [(0, .ref (ax 0)), (1, .int x1), (2, .int y2), (3, .int y3)] → W p l e ({ frames := 8, cells := 1, slots := 6, locals := 141 } : Room) s m args below meth c H locs 1 6 (vx_MQ below (az_QTI g (az_w6 g ax an au V Y) o.1 o.2 A) (az_XT g (az_w6 g ax an au V Y) o.1 A) args s 1 6 A) (F0 m 20 ls []) := by
    intro n
    induction n with
    | zero => intro y2 y3 H locs ls h; exact az_non h
    | succ n ih =>
      intro y2 y3 H locs ls h hP hD hS hl
      rw [FX6_neededBy_L20_s] at h
      refine lv_iload_n hx hb dX6_neededBy_20 rfl (lv_at hl 3 rfl) ?_
      refine lv_iconst (v := (4 : Int32)) hx hb dX6_neededBy_21 (by decide) ?_
      refine lv_icmp_ge (tgt := 67) hx hb dX6_neededBy_22 (by decide) (fun c22 => ?_) (fun c22 => ?_)
      · replace h := az_pos c22 h
        refine lv_aload_n hx hb dX6_neededBy_67 rfl (lv_at hl 0 rfl) ?_
        refine va_get (D := g.1) (ci := 6) (v := .ref (an 0)) (C := RX6) (T := TX6) (N := 3) hx hb hts inX6_neededBy_RX6 hown hK hP 0 rfl rfl 0 (Nat.le_of_ble_eq_true rfl) (hts _ (List.mem_of_getElem? (i := 1) rfl)) (fun _ h9 => h9) rfl dX6_neededBy_68 ?_
        refine va_get (D := g.1) (ci := 5) (v := .ref (an 6)) (C := RX5) (T := TX5) (N := 11) hx hb hts inX6_neededBy_RX5 hown hK hP 1 rfl rfl 1 (Nat.le_of_ble_eq_true rfl) (hts _ (List.mem_of_getElem? (i := 2) rfl)) (fun _ h9 => h9) rfl dX6_neededBy_71 ?_
        refine va_get (D := g.1) (ci := 0) (v := .ref (an 7)) (C := RX0) (T := TX0) (N := 6) hx hb hts inX6_neededBy_RX0 hown hK hP 7 rfl rfl 0 (Nat.le_of_ble_eq_true rfl) (hts _ (List.mem_of_getElem? (i := 6) rfl)) (fun _ h9 => h9) rfl dX6_neededBy_74 ?_
        refine lv_iload_n hx hb dX6_neededBy_77 rfl (lv_at hl 1 rfl) ?_
        obtain ⟨i78, h⟩ := az_ite h
        refine va_iald (D := g.1) (f := (V 5)) hx hb hK hP 8 0 rfl rfl (az_vin i78) dX6_neededBy_78 ?_
        refine lv_iconst (v := (1 : Int32)) hx hb dX6_neededBy_79 (by decide) ?_
        refine lv_icmp_ne (tgt := 89) hx hb dX6_neededBy_80 (by decide) (fun c80 => ?_) (fun c80 => ?_)
        · replace h := az_neg c80 h
          refine lv_iload_n hx hb dX6_neededBy_89 rfl (lv_at hl 2 rfl) ?_
          have hP : va_P g.1 az_cl (az_w6 g ax an au V Y) _ := hP
          have hD : va_D A (az_w6 g ax an au V Y) := hD
          rw [← Option.some.inj h]
          exact az_iretT hx hb hr hlocks hK hP hD hS dX6_neededBy_90 (Nat.le_of_ble_eq_true rfl) (Nat.le_of_ble_eq_true rfl)
        · replace h := az_pos c80 h
          refine lv_iload_n hx hb dX6_neededBy_83 rfl (lv_at hl 2 rfl) ?_
          refine lv_ldcw (v := (65536 : Int32)) hx hb hown (hts _ (List.mem_of_getElem? (i := 7) rfl)) dX6_neededBy_84 ?_
          refine lv_ior hx hb dX6_neededBy_87 ?_
          refine lv_istore_n (lv' := [(2, .int (y2 ||| (65536 : Int32))), (0, .ref (ax 0)), (1, .int x1), (3, .int y3)]) hx hb dX6_neededBy_88 rfl hl (by decide) rfl (fun ls hl => ?_)
          refine lv_iload_n hx hb dX6_neededBy_89 rfl (lv_at hl 0 rfl) ?_
          have hP : va_P g.1 az_cl (az_w6 g ax an au V Y) _ := hP
          have hD : va_D A (az_w6 g ax an au V Y) := hD
          rw [← Option.some.inj h]
          exact az_iretT hx hb hr hlocks hK hP hD hS dX6_neededBy_90 (Nat.le_of_ble_eq_true rfl) (Nat.le_of_ble_eq_true rfl)
      · replace h := az_neg c22 h
        refine lv_aload_n hx hb dX6_neededBy_25 rfl (lv_at hl 0 rfl) ?_
        refine va_get (D := g.1) (ci := 6) (v := .ref (an 0)) (C := RX6) (T := TX6) (N := 3) hx hb hts inX6_neededBy_RX6 hown hK hP 0 rfl rfl 0 (Nat.le_of_ble_eq_true rfl) (hts _ (List.mem_of_getElem? (i := 1) rfl)) (fun _ h9 => h9) rfl dX6_neededBy_26 ?_
        refine va_get (D := g.1) (ci := 5) (v := .ref (an 16)) (C := RX5) (T := TX5) (N := 11) hx hb hts inX6_neededBy_RX5 hown hK hP 1 rfl rfl 3 (Nat.le_of_ble_eq_true rfl) (hts _ (List.mem_of_getElem? (i := 4) rfl)) (fun _ h9 => h9) rfl dX6_neededBy_29 ?_
        refine lv_iload_n hx hb dX6_neededBy_32 rfl (lv_at hl 3 rfl) ?_
        refine lv_aload_n hx hb dX6_neededBy_33 rfl (lv_at hl 0 rfl) ?_
        refine va_get (D := g.1) (ci := 6) (v := .ref (an 0)) (C := RX6) (T := TX6) (N := 3) hx hb hts inX6_neededBy_RX6 hown hK hP 0 rfl rfl 0 (Nat.le_of_ble_eq_true rfl) (hts _ (List.mem_of_getElem? (i := 1) rfl)) (fun _ h9 => h9) rfl dX6_neededBy_34 ?_
        refine va_get (D := g.1) (ci := 5) (v := .ref (an 6)) (C := RX5) (T := TX5) (N := 11) hx hb hts inX6_neededBy_RX5 hown hK hP 1 rfl rfl 1 (Nat.le_of_ble_eq_true rfl) (hts _ (List.mem_of_getElem? (i := 2) rfl)) (fun _ h9 => h9) rfl dX6_neededBy_37 ?_
        refine va_get (D := g.1) (ci := 0) (v := .ref (an 8)) (C := RX0) (T := TX0) (N := 6) hx hb hts inX6_neededBy_RX0 hown hK hP 7 rfl rfl 1 (Nat.le_of_ble_eq_true rfl) (hts _ (List.mem_of_getElem? (i := 5) rfl)) (fun _ h9 => h9) rfl dX6_neededBy_40 ?_
        refine lv_iload_n hx hb dX6_neededBy_43 rfl (lv_at hl 1 rfl) ?_
        obtain ⟨i44, h⟩ := az_ite h
        refine va_iald (D := g.1) (f := (V 6)) hx hb hK hP 9 0 rfl rfl (az_vin i44) dX6_neededBy_44 ?_
        refine lv_iload_n hx hb dX6_neededBy_45 rfl (lv_at hl 1 rfl) ?_
        obtain ⟨o46, hc46, h⟩ := az_bnd h
        refine az_callPi (w2 := az_w6 g ax an au V Y) (As := [.int y3, .int ((V 6) x1.toNatClampNeg), .int x1]) (rest := []) ⟨hx, hb, hml, hown, hts⟩ hl.1 (kX4_has l g an V y3 ((V 6) x1.toNatClampNeg) x1 o46 hc46) (cwV 3 hts gX6_neededBy_X4_has rfl rfl rfl (by decide +kernel) ⟨(Nat.le_of_ble_eq_true rfl), (Nat.le_of_ble_eq_true rfl)⟩) rfl hK hP hD hS hA (az_pm (az_x ax an au :: (az_cV g an V).take 16) (az_cP g an V) ((az_cV g an V).drop 19 ++ Y)) (az_pm (az_x ax an au :: (az_cV g an V).take 16) (az_cP g an V) ((az_cV g an V).drop 19 ++ Y)).symm 0 rfl rfl rfl (Nat.le_of_ble_eq_true rfl) dX6_neededBy_46 ⟨(Nat.le_of_ble_eq_true rfl), (Nat.le_of_ble_eq_true rfl)⟩ rfl (fun H locs hP hD hS => ?_)
        have hP : va_P g.1 az_cl (az_w6 g ax an au V Y) _ := hP
        have hD : va_D A (az_w6 g ax an au V Y) := hD
        refine lv_if_eq (tgt := 61) hx hb dX6_neededBy_49 (by decide) (fun c49 => ?_) (fun c49 => ?_)
        · replace h := az_pos c49 h
          refine lv_iinc (v := y3 + (1 : Int32)) (lv' := [(3, .int (y3 + (1 : Int32))), (0, .ref (ax 0)), (1, .int x1), (2, .int y2)]) hx hb dX6_neededBy_61 hl (k := 3) rfl (rfl) (by decide) rfl (fun ls hl => ?_)
          refine lv_goto (tgt := 20) hx hb dX6_neededBy_64 (by decide) ?_
          have hP : va_P g.1 az_cl (az_w6 g ax an au V Y) _ := hP
          have hD : va_D A (az_w6 g ax an au V Y) := hD
          exact ih y2 (y3 + (1 : Int32)) _ _ ls h hP hD hS (lv_sub hl [1, 2, 3, 0] rfl)
        · replace h := az_neg c49 h
          refine lv_iload_n hx hb dX6_neededBy_52 rfl (lv_at hl 2 rfl) ?_
          refine lv_iconst (v := (1 : Int32)) hx hb dX6_neededBy_53 (by decide) ?_
          refine lv_bipush (v := (8 : Int32)) hx hb dX6_neededBy_54 (by decide) ?_
          refine lv_iload_n hx hb dX6_neededBy_56 rfl (lv_at hl 3 rfl) ?_
          refine lv_iadd hx hb dX6_neededBy_57 ?_
          refine lv_ishl hx hb dX6_neededBy_58 ?_
          refine lv_ior hx hb dX6_neededBy_59 ?_
          refine lv_istore_n (lv' := [(2, .int (y2 ||| ((1 : Int32) <<< (((8 : Int32) + y3) &&& 31)))), (0, .ref (ax 0)), (1, .int x1), (3, .int y3)]) hx hb dX6_neededBy_60 rfl hl (by decide) rfl (fun ls hl => ?_)
          refine lv_iinc (v := y3 + (1 : Int32)) (lv' := [(3, .int (y3 + (1 : Int32))), (2, .int (y2 ||| ((1 : Int32) <<< (((8 : Int32) + y3) &&& 31)))), (0, .ref (ax 0)), (1, .int x1)]) hx hb dX6_neededBy_61 hl (k := 3) rfl (rfl) (by decide) rfl (fun ls hl => ?_)
          refine lv_goto (tgt := 20) hx hb dX6_neededBy_64 (by decide) ?_
          have hP : va_P g.1 az_cl (az_w6 g ax an au V Y) _ := hP
          have hD : va_D A (az_w6 g ax an au V Y) := hD
          exact ih (y2 ||| ((1 : Int32) <<< (((8 : Int32) + y3) &&& 31))) (y3 + (1 : Int32)) _ _ ls h hP hD hS (lv_sub hl [2, 3, 1, 0] rfl)
  refine lv_aload_n hx hb dX6_neededBy_0 rfl (lv_at hl 0 rfl) ?_
  refine lv_iload_n hx hb dX6_neededBy_1 rfl (lv_at hl 1 rfl) ?_
  obtain ⟨o2, hc2, h⟩ := az_bnd h
  refine az_callVT (As := [.int x1]) (rest := []) ⟨hx, hb, hml, hown, hts⟩ hl.1 (kX6_checkAddress l hst g sa ax an au Y V x1 o2 hc2) (cwV 1 hts gX6_neededBy_X6_checkAddress rfl rfl rfl (by decide +kernel) ⟨(Nat.le_of_ble_eq_true rfl), (Nat.le_of_ble_eq_true rfl)⟩) rfl hK hcx hP hD hS hA 0 rfl rfl rfl (Nat.le_of_ble_eq_true rfl) dX6_neededBy_2 ⟨(Nat.le_of_ble_eq_true rfl), (Nat.le_of_ble_eq_true rfl)⟩ rfl (fun n2 ce q9 H locs hP hS hce hcv hcl => ?_) (fun c2 H locs hP hS => ?_)
  · replace h := az_neg n2 h
    have hP : va_P g.1 az_cl (az_w6 g ax an au V Y) _ := hP
    have hD : va_D A (az_w6 g ax an au V Y) := hD
    rw [← Option.some.inj h]
    exact az_outT n2 hex hlocks hce hcv hcl hK hP hD hS (Nat.le_of_ble_eq_true rfl) (Nat.le_of_ble_eq_true rfl)
  replace h := az_pos c2 h
  refine lv_aload_n hx hb dX6_neededBy_5 rfl (lv_at hl 0 rfl) ?_
  refine va_get (D := g.1) (ci := 6) (v := .ref (an 0)) (C := RX6) (T := TX6) (N := 3) hx hb hts inX6_neededBy_RX6 hown hK hP 0 rfl rfl 0 (Nat.le_of_ble_eq_true rfl) (hts _ (List.mem_of_getElem? (i := 1) rfl)) (fun _ h9 => h9) rfl dX6_neededBy_6 ?_
  refine va_get (D := g.1) (ci := 5) (v := .ref (an 6)) (C := RX5) (T := TX5) (N := 11) hx hb hts inX6_neededBy_RX5 hown hK hP 1 rfl rfl 1 (Nat.le_of_ble_eq_true rfl) (hts _ (List.mem_of_getElem? (i := 2) rfl)) (fun _ h9 => h9) rfl dX6_neededBy_9 ?_
  refine va_get (D := g.1) (ci := 0) (v := .ref (an 12)) (C := RX0) (T := TX0) (N := 6) hx hb hts inX6_neededBy_RX0 hown hK hP 7 rfl rfl 5 (Nat.le_of_ble_eq_true rfl) (hts _ (List.mem_of_getElem? (i := 3) rfl)) (fun _ h9 => h9) rfl dX6_neededBy_12 ?_
  refine lv_iload_n hx hb dX6_neededBy_15 rfl (lv_at hl 1 rfl) ?_
  obtain ⟨i16, h⟩ := az_ite h
  refine va_iald (D := g.1) (f := (V 10)) hx hb hK hP 13 0 rfl rfl (az_vin i16) dX6_neededBy_16 ?_
  refine lv_istore_n (lv' := [(2, .int ((V 10) x1.toNatClampNeg)), (0, .ref (ax 0)), (1, .int x1)]) hx hb dX6_neededBy_17 rfl hl (by decide) rfl (fun ls hl => ?_)
  refine lv_iconst (v := (0 : Int32)) hx hb dX6_neededBy_18 (by decide) ?_
  refine lv_istore_n (lv' := [(3, .int (0 : Int32)), (2, .int ((V 10) x1.toNatClampNeg)), (0, .ref (ax 0)), (1, .int x1)]) hx hb dX6_neededBy_19 rfl hl (by decide) rfl (fun ls hl => ?_)
  have hP : va_P g.1 az_cl (az_w6 g ax an au V Y) _ := hP
  have hD : va_D A (az_w6 g ax an au V Y) := hD
  refine W.widen (k := 1) (n := 6) (Nat.le_of_ble_eq_true rfl) (Nat.le_of_ble_eq_true rfl) ?_
  exact hL20 az_fuel ((V 10) x1.toNatClampNeg) (0 : Int32) _ _ ls h hP hD hS (lv_sub hl [2, 3, 1, 0] rfl)

def FX6_waiting (V : az_St) (x1 : Int32) : Option (Nat × Int32) := (FX6_isBetween x1 (0 : Int32) (2 : Int32)).bind (fun o3 => (FX6_checkArgument o3).bind (fun o6 => if o6 = 0 then ((FX5_reclaimableAfter V x1).bind (fun o14 => if x1 = (0 : Int32) then (some (0, o14)) else ((FX5_reclaimableAfter V (x1 - (1 : Int32))).bind (fun o34 => some (0, o14 - o34))))) else some (o6, (0 : Int32))))
theorem inX6_waiting_RX6 : ∀ w ∈ wsX60, w ∈ wsX6_waiting := az_inr [25, 26, 27] (by decide +kernel)
set_option maxHeartbeats 4000000 in
set_option maxRecDepth 100000 in
theorem kX6_waiting (l : Launch) (hst : l.stackTraces = false) (g : az_G) (sa : Nat → Nat) (ax : Nat → Nat) (an : Nat → Nat) (au : Nat → Nat) (Y : va_W) (V : az_St) (x1 : Int32) (o : Nat × Int32) (h : FX6_waiting V x1 = some o) : az_TI l yX6_waiting wsX6_waiting ({ frames := 7, cells := 1, slots := 6, locals := 120 } : Room) [.ref (ax 0), .int x1] g sa (az_w6 g ax an au V Y) o.1 o.2 (az_w6 g ax an au V Y) 1 := by
  refine az_bodyT (cc := cX6_waiting) (maxL := 3) (ret := (some .int)) (mc := 1) (ms := 6) (Qc := fun A => az_QTI g (az_w6 g ax an au V Y) o.1 o.2 A) (XC := fun A => az_XT g (az_w6 g ax an au V Y) o.1 A) (by decide +kernel) rfl (Nat.le_of_ble_eq_true rfl) ?_
  intro p e s m args below meth c A hx hb hr hts hown hml hlocks hex hcx hA hK hP hD hS ls hl
  have hl : lv_has ls 3 [(0, .ref (ax 0)), (1, .int x1)] := hl
  unfold FX6_waiting at h
  refine lv_iload_n hx hb dX6_waiting_0 rfl (lv_at hl 1 rfl) ?_
  refine lv_iconst (v := (0 : Int32)) hx hb dX6_waiting_1 (by decide) ?_
  refine lv_iconst (v := (2 : Int32)) hx hb dX6_waiting_2 (by decide) ?_
  obtain ⟨o3, hc3, h⟩ := az_bnd h
  refine az_callS0 (As := [.int x1, .int (0 : Int32), .int (2 : Int32)]) (rest := []) ⟨hx, hb, hml, hown, hts⟩ hl.1 (kX6_isBetween l g x1 (0 : Int32) (2 : Int32) o3 hc3) (va_cwS 3 hts gX6_waiting_X6_isBetween rfl rfl rfl (by decide +kernel) ⟨(Nat.le_of_ble_eq_true rfl), (Nat.le_of_ble_eq_true rfl)⟩) rfl hK hP hS hA (Nat.le_of_ble_eq_true rfl) dX6_waiting_3 ⟨(Nat.le_of_ble_eq_true rfl), (Nat.le_of_ble_eq_true rfl)⟩ rfl (fun H locs hP hS => ?_)
  obtain ⟨o6, hc6, h⟩ := az_bnd h
  refine az_callST (As := [.int o3]) (rest := []) ⟨hx, hb, hml, hown, hts⟩ hl.1 (kX6_checkArgument l hst g sa o3 o6 hc6) (va_cwS 1 hts gX6_waiting_X6_checkArgument rfl rfl rfl (by decide +kernel) ⟨(Nat.le_of_ble_eq_true rfl), (Nat.le_of_ble_eq_true rfl)⟩) rfl hK hcx hP hS hA (Nat.le_of_ble_eq_true rfl) dX6_waiting_6 ⟨(Nat.le_of_ble_eq_true rfl), (Nat.le_of_ble_eq_true rfl)⟩ rfl (fun n6 ce q9 H locs hP hS hce hcv hcl => ?_) (fun c6 H locs hP hS => ?_)
  · replace h := az_neg n6 h
    have hP : va_P g.1 az_cl (az_w6 g ax an au V Y) _ := hP
    have hD : va_D A (az_w6 g ax an au V Y) := hD
    rw [← Option.some.inj h]
    exact az_outT n6 hex hlocks hce hcv hcl hK hP hD hS (Nat.le_of_ble_eq_true rfl) (Nat.le_of_ble_eq_true rfl)
  replace h := az_pos c6 h
  refine lv_aload_n hx hb dX6_waiting_9 rfl (lv_at hl 0 rfl) ?_
  refine va_get (D := g.1) (ci := 6) (v := .ref (an 0)) (C := RX6) (T := TX6) (N := 3) hx hb hts inX6_waiting_RX6 hown hK hP 0 rfl rfl 0 (Nat.le_of_ble_eq_true rfl) (hts _ (List.mem_of_getElem? (i := 1) rfl)) (fun _ h9 => h9) rfl dX6_waiting_10 ?_
  refine lv_iload_n hx hb dX6_waiting_13 rfl (lv_at hl 1 rfl) ?_
  obtain ⟨o14, hc14, h⟩ := az_bnd h
  refine az_callPi (w2 := az_w6 g ax an au V Y) (As := [.int x1]) (rest := []) ⟨hx, hb, hml, hown, hts⟩ hl.1 (kX5_reclaimableAfter l g an V x1 o14 hc14) (cwV 1 hts gX6_waiting_X5_reclaimableAfter rfl rfl rfl (by decide +kernel) ⟨(Nat.le_of_ble_eq_true rfl), (Nat.le_of_ble_eq_true rfl)⟩) rfl hK hP hD hS hA (az_pm (az_x ax an au :: (az_cV g an V).take 0) (az_cV g an V) ((az_cV g an V).drop 20 ++ Y)) (az_pm (az_x ax an au :: (az_cV g an V).take 0) (az_cV g an V) ((az_cV g an V).drop 20 ++ Y)).symm 0 rfl rfl rfl (Nat.le_of_ble_eq_true rfl) dX6_waiting_14 ⟨(Nat.le_of_ble_eq_true rfl), (Nat.le_of_ble_eq_true rfl)⟩ rfl (fun H locs hP hD hS => ?_)
  have hP : va_P g.1 az_cl (az_w6 g ax an au V Y) _ := hP
  have hD : va_D A (az_w6 g ax an au V Y) := hD
  refine lv_istore_n (lv' := [(2, .int o14), (0, .ref (ax 0)), (1, .int x1)]) hx hb dX6_waiting_17 rfl hl (by decide) rfl (fun ls hl => ?_)
  refine lv_iload_n hx hb dX6_waiting_18 rfl (lv_at hl 2 rfl) ?_
  refine lv_if_ne (tgt := 26) hx hb dX6_waiting_19 (by decide) (fun c19 => ?_) (fun c19 => ?_)
  · replace h := az_neg c19 h
    refine lv_iload_n hx hb dX6_waiting_26 rfl (lv_at hl 0 rfl) ?_
    refine lv_aload_n hx hb dX6_waiting_27 rfl (lv_at hl 1 rfl) ?_
    refine va_get (D := g.1) (ci := 6) (v := .ref (an 0)) (C := RX6) (T := TX6) (N := 3) hx hb hts inX6_waiting_RX6 hown hK hP 0 rfl rfl 0 (Nat.le_of_ble_eq_true rfl) (hts _ (List.mem_of_getElem? (i := 1) rfl)) (fun _ h9 => h9) rfl dX6_waiting_28 ?_
    refine lv_iload_n hx hb dX6_waiting_31 rfl (lv_at hl 2 rfl) ?_
    refine lv_iconst (v := (1 : Int32)) hx hb dX6_waiting_32 (by decide) ?_
    refine lv_isub hx hb dX6_waiting_33 ?_
    obtain ⟨o34, hc34, h⟩ := az_bnd h
    refine az_callPi (w2 := az_w6 g ax an au V Y) (As := [.int (x1 - (1 : Int32))]) (rest := [.int o14]) ⟨hx, hb, hml, hown, hts⟩ hl.1 (kX5_reclaimableAfter l g an V (x1 - (1 : Int32)) o34 hc34) (cwV 1 hts gX6_waiting_X5_reclaimableAfter rfl rfl rfl (by decide +kernel) ⟨(Nat.le_of_ble_eq_true rfl), (Nat.le_of_ble_eq_true rfl)⟩) rfl hK hP hD hS hA (az_pm (az_x ax an au :: (az_cV g an V).take 0) (az_cV g an V) ((az_cV g an V).drop 20 ++ Y)) (az_pm (az_x ax an au :: (az_cV g an V).take 0) (az_cV g an V) ((az_cV g an V).drop 20 ++ Y)).symm 0 rfl rfl rfl (Nat.le_of_ble_eq_true rfl) dX6_waiting_34 ⟨(Nat.le_of_ble_eq_true rfl), (Nat.le_of_ble_eq_true rfl)⟩ rfl (fun H locs hP hD hS => ?_)
    have hP : va_P g.1 az_cl (az_w6 g ax an au V Y) _ := hP
    have hD : va_D A (az_w6 g ax an au V Y) := hD
    refine lv_isub hx hb dX6_waiting_37 ?_
    have hP : va_P g.1 az_cl (az_w6 g ax an au V Y) _ := hP
    have hD : va_D A (az_w6 g ax an au V Y) := hD
    rw [← Option.some.inj h]
    exact az_iretT hx hb hr hlocks hK hP hD hS dX6_waiting_38 (Nat.le_of_ble_eq_true rfl) (Nat.le_of_ble_eq_true rfl)
  · replace h := az_pos c19 h
    refine lv_iload_n hx hb dX6_waiting_22 rfl (lv_at hl 0 rfl) ?_
    refine lv_goto (tgt := 38) hx hb dX6_waiting_23 (by decide) ?_
    have hP : va_P g.1 az_cl (az_w6 g ax an au V Y) _ := hP
    have hD : va_D A (az_w6 g ax an au V Y) := hD
    rw [← Option.some.inj h]
    exact az_iretT hx hb hr hlocks hK hP hD hS dX6_waiting_38 (Nat.le_of_ble_eq_true rfl) (Nat.le_of_ble_eq_true rfl)

def FX6_reclaim (V : az_St) (T : az_St) (S : Nat → az_St) (hs : Nat → Int32) : Option (Int32 × (Nat → az_St) × (Nat → Int32) × (Nat → Int32) × (Nat → Int32) × (Nat → Int32) × (Nat → Int32) × (Nat → Int32) × (Nat → Int32) × (Nat → Int32) × (Nat → Int32) × (Nat → Int32)) := (FX1_save S hs V).bind (fun o8 => (FX5_regain V ).bind (fun o15 => some (o15.1, o8.1, o15.2.1, o15.2.2.1, o15.2.2.2.1, o15.2.2.2.2.1, o15.2.2.2.2.2.1, o15.2.2.2.2.2.2.1, o15.2.2.2.2.2.2.2.1, o15.2.2.2.2.2.2.2.2.1, o15.2.2.2.2.2.2.2.2.2, o8.2)))
theorem inX6_reclaim_RX6 : ∀ w ∈ wsX60, w ∈ wsX6_reclaim := az_inr [106, 107, 108] (by decide +kernel)
set_option maxHeartbeats 4000000 in
set_option maxRecDepth 100000 in
theorem kX6_reclaim (l : Launch) (g : az_G) (ax : Nat → Nat) (an : Nat → Nat) (au : Nat → Nat) (aw : Nat → Nat → Nat) (V : az_St) (T : az_St) (S : Nat → az_St) (hs : Nat → Int32) (o : Int32 × (Nat → az_St) × (Nat → Int32) × (Nat → Int32) × (Nat → Int32) × (Nat → Int32) × (Nat → Int32) × (Nat → Int32) × (Nat → Int32) × (Nat → Int32) × (Nat → Int32) × (Nat → Int32)) (h : FX6_reclaim V T S hs = some o) : az_I l yX6_reclaim wsX6_reclaim ({ frames := 4, cells := 0, slots := 0, locals := 164 } : Room) [.ref (ax 0)] g (az_w6 g ax an au V (az_cV g au T ++ az_cH g ax aw S hs)) o.1 (az_w6 g ax an au (va_up (va_up (va_up (va_up (va_up (va_up (va_up (va_up (va_up V 0 o.2.2.1) 1 o.2.2.2.1) 2 o.2.2.2.2.1) 5 o.2.2.2.2.2.1) 6 o.2.2.2.2.2.2.1) 7 o.2.2.2.2.2.2.2.1) 8 o.2.2.2.2.2.2.2.2.1) 9 o.2.2.2.2.2.2.2.2.2.1) 10 o.2.2.2.2.2.2.2.2.2.2.1) (az_cV g au T ++ az_cH g ax aw o.2.1 o.2.2.2.2.2.2.2.2.2.2.2)) := by
  refine az_body (cc := cX6_reclaim) (maxL := 1) (ret := (some .int)) (Qc := fun A => az_QI g (az_w6 g ax an au (va_up (va_up (va_up (va_up (va_up (va_up (va_up (va_up (va_up V 0 o.2.2.1) 1 o.2.2.2.1) 2 o.2.2.2.2.1) 5 o.2.2.2.2.2.1) 6 o.2.2.2.2.2.2.1) 7 o.2.2.2.2.2.2.2.1) 8 o.2.2.2.2.2.2.2.2.1) 9 o.2.2.2.2.2.2.2.2.2.1) 10 o.2.2.2.2.2.2.2.2.2.2.1) (az_cV g au T ++ az_cH g ax aw o.2.1 o.2.2.2.2.2.2.2.2.2.2.2)) o.1 A) (by decide +kernel) rfl (Nat.le_of_ble_eq_true rfl) ?_
  intro p e s m args below meth c A hx hb hr hts hown hml hlocks hA hK hP hD hS ls hl
  have hl : lv_has ls 1 [(0, .ref (ax 0))] := hl
  unfold FX6_reclaim at h
  refine lv_aload_n hx hb dX6_reclaim_0 rfl (lv_at hl 0 rfl) ?_
  refine va_get (D := g.1) (ci := 6) (v := .ref (ax 1)) (C := RX6) (T := TX6) (N := 3) hx hb hts inX6_reclaim_RX6 hown hK hP 0 rfl rfl 2 (Nat.le_of_ble_eq_true rfl) (hts _ (List.mem_of_getElem? (i := 1) rfl)) (fun _ h9 => h9) rfl dX6_reclaim_1 ?_
  refine lv_aload_n hx hb dX6_reclaim_4 rfl (lv_at hl 0 rfl) ?_
  refine va_get (D := g.1) (ci := 6) (v := .ref (an 0)) (C := RX6) (T := TX6) (N := 3) hx hb hts inX6_reclaim_RX6 hown hK hP 0 rfl rfl 0 (Nat.le_of_ble_eq_true rfl) (hts _ (List.mem_of_getElem? (i := 2) rfl)) (fun _ h9 => h9) rfl dX6_reclaim_5 ?_
  obtain ⟨o8, hc8, h⟩ := az_bnd h
  refine az_callPv (w2 := az_w6 g ax an au V (az_cV g au T ++ az_cH g ax aw o8.1 o8.2)) (As := [.ref (an 0)]) (rest := []) ⟨hx, hb, hml, hown, hts⟩ hl.1 (kX1_save l g ax an aw S hs V o8 hc8) (cwV 1 hts gX6_reclaim_X1_save rfl rfl rfl (by decide +kernel) ⟨(Nat.le_of_ble_eq_true rfl), (Nat.le_of_ble_eq_true rfl)⟩) rfl hK hP hD hS hA (az_pH (az_x ax an au) (az_cV g an V) (az_cV g au T) (az_cH g ax aw S hs)) (az_pH (az_x ax an au) (az_cV g an V) (az_cV g au T) (az_cH g ax aw o8.1 o8.2)).symm 0 rfl rfl rfl (Nat.le_of_ble_eq_true rfl) dX6_reclaim_8 ⟨Nat.zero_le _, Nat.zero_le _⟩ rfl (fun H locs hP hD hS => ?_)
  have hP : va_P g.1 az_cl (az_w6 g ax an au V (az_cV g au T ++ az_cH g ax aw o8.1 o8.2)) _ := hP
  have hD : va_D A (az_w6 g ax an au V (az_cV g au T ++ az_cH g ax aw o8.1 o8.2)) := hD
  refine lv_aload_n hx hb dX6_reclaim_11 rfl (lv_at hl 0 rfl) ?_
  refine va_get (D := g.1) (ci := 6) (v := .ref (an 0)) (C := RX6) (T := TX6) (N := 3) hx hb hts inX6_reclaim_RX6 hown hK hP 0 rfl rfl 0 (Nat.le_of_ble_eq_true rfl) (hts _ (List.mem_of_getElem? (i := 2) rfl)) (fun _ h9 => h9) rfl dX6_reclaim_12 ?_
  obtain ⟨o15, hc15, h⟩ := az_bnd h
  refine az_callPi (w2 := az_w6 g ax an au (va_up (va_up (va_up (va_up (va_up (va_up (va_up (va_up (va_up V 0 o15.2.1) 1 o15.2.2.1) 2 o15.2.2.2.1) 5 o15.2.2.2.2.1) 6 o15.2.2.2.2.2.1) 7 o15.2.2.2.2.2.2.1) 8 o15.2.2.2.2.2.2.2.1) 9 o15.2.2.2.2.2.2.2.2.1) 10 o15.2.2.2.2.2.2.2.2.2) (az_cV g au T ++ az_cH g ax aw o8.1 o8.2)) (As := []) (rest := []) ⟨hx, hb, hml, hown, hts⟩ hl.1 (kX5_regain l g an V  o15 hc15) (cwV 0 hts gX6_reclaim_X5_regain rfl rfl rfl (by decide +kernel) ⟨(Nat.le_of_ble_eq_true rfl), (Nat.le_of_ble_eq_true rfl)⟩) rfl hK hP hD hS hA (az_pm (az_x ax an au :: (az_cV g an V).take 0) (az_cV g an V) ((az_cV g an V).drop 20 ++ (az_cV g au T ++ az_cH g ax aw o8.1 o8.2))) (az_pm (az_x ax an au :: (az_cV g an V).take 0) (az_cV g an (va_up (va_up (va_up (va_up (va_up (va_up (va_up (va_up (va_up V 0 o15.2.1) 1 o15.2.2.1) 2 o15.2.2.2.1) 5 o15.2.2.2.2.1) 6 o15.2.2.2.2.2.1) 7 o15.2.2.2.2.2.2.1) 8 o15.2.2.2.2.2.2.2.1) 9 o15.2.2.2.2.2.2.2.2.1) 10 o15.2.2.2.2.2.2.2.2.2)) ((az_cV g an V).drop 20 ++ (az_cV g au T ++ az_cH g ax aw o8.1 o8.2))).symm 0 rfl rfl rfl (Nat.le_of_ble_eq_true rfl) dX6_reclaim_15 ⟨Nat.zero_le _, Nat.zero_le _⟩ rfl (fun H locs hP hD hS => ?_)
  have hP : va_P g.1 az_cl (az_w6 g ax an au (va_up (va_up (va_up (va_up (va_up (va_up (va_up (va_up (va_up V 0 o15.2.1) 1 o15.2.2.1) 2 o15.2.2.2.1) 5 o15.2.2.2.2.1) 6 o15.2.2.2.2.2.1) 7 o15.2.2.2.2.2.2.1) 8 o15.2.2.2.2.2.2.2.1) 9 o15.2.2.2.2.2.2.2.2.1) 10 o15.2.2.2.2.2.2.2.2.2) (az_cV g au T ++ az_cH g ax aw o8.1 o8.2)) _ := hP
  have hD : va_D A (az_w6 g ax an au (va_up (va_up (va_up (va_up (va_up (va_up (va_up (va_up (va_up V 0 o15.2.1) 1 o15.2.2.1) 2 o15.2.2.2.1) 5 o15.2.2.2.2.1) 6 o15.2.2.2.2.2.1) 7 o15.2.2.2.2.2.2.1) 8 o15.2.2.2.2.2.2.2.1) 9 o15.2.2.2.2.2.2.2.2.1) 10 o15.2.2.2.2.2.2.2.2.2) (az_cV g au T ++ az_cH g ax aw o8.1 o8.2)) := hD
  have hP : va_P g.1 az_cl (az_w6 g ax an au (va_up (va_up (va_up (va_up (va_up (va_up (va_up (va_up (va_up V 0 o15.2.1) 1 o15.2.2.1) 2 o15.2.2.2.1) 5 o15.2.2.2.2.1) 6 o15.2.2.2.2.2.1) 7 o15.2.2.2.2.2.2.1) 8 o15.2.2.2.2.2.2.2.1) 9 o15.2.2.2.2.2.2.2.2.1) 10 o15.2.2.2.2.2.2.2.2.2) (az_cV g au T ++ az_cH g ax aw o8.1 o8.2)) _ := hP
  have hD : va_D A (az_w6 g ax an au (va_up (va_up (va_up (va_up (va_up (va_up (va_up (va_up (va_up V 0 o15.2.1) 1 o15.2.2.1) 2 o15.2.2.2.1) 5 o15.2.2.2.2.1) 6 o15.2.2.2.2.2.1) 7 o15.2.2.2.2.2.2.1) 8 o15.2.2.2.2.2.2.2.1) 9 o15.2.2.2.2.2.2.2.2.1) 10 o15.2.2.2.2.2.2.2.2.2) (az_cV g au T ++ az_cH g ax aw o8.1 o8.2)) := hD
  rw [← Option.some.inj h]
  exact az_iret hx hb hr hlocks hK hP hD hS dX6_reclaim_18

def FX6_wouldErase_L4 : Nat → az_St → Int32 → Int32 → Option (Int32)
  | 0, _, _, _ => none
  | n + 1, V, y1, y2 => if (V 4) 0 ≤ y2 then (some (y1)) else ((FX5_canBeErased V y2).bind (fun o23 => if o23 = (0 : Int32) then (FX6_wouldErase_L4 n V y1 (y2 + (1 : Int32))) else ((FX5_advancesMissingIn V y2).bind (fun o34 => if o34 = (0 : Int32) then (FX6_wouldErase_L4 n V (y1 + (1 : Int32)) (y2 + (1 : Int32))) else (FX6_wouldErase_L4 n V y1 (y2 + (1 : Int32)))))))
theorem FX6_wouldErase_L4_s (n : Nat) (V : az_St) (y1 : Int32) (y2 : Int32) : FX6_wouldErase_L4 (n + 1) V y1 y2 = (if (V 4) 0 ≤ y2 then (some (y1)) else ((FX5_canBeErased V y2).bind (fun o23 => if o23 = (0 : Int32) then (FX6_wouldErase_L4 n V y1 (y2 + (1 : Int32))) else ((FX5_advancesMissingIn V y2).bind (fun o34 => if o34 = (0 : Int32) then (FX6_wouldErase_L4 n V (y1 + (1 : Int32)) (y2 + (1 : Int32))) else (FX6_wouldErase_L4 n V y1 (y2 + (1 : Int32)))))))) := rfl
def FX6_wouldErase (V : az_St) : Option (Int32) := FX6_wouldErase_L4 az_fuel V (0 : Int32) (0 : Int32)
theorem inX6_wouldErase_RX3 : ∀ w ∈ wsX30, w ∈ wsX6_wouldErase := az_inr [56, 57, 58, 59, 60, 61] (by decide +kernel)
theorem inX6_wouldErase_RX5 : ∀ w ∈ wsX50, w ∈ wsX6_wouldErase := az_inr [45, 46, 47, 48, 49, 50, 51, 52, 53, 54, 55] (by decide +kernel)
theorem inX6_wouldErase_RX6 : ∀ w ∈ wsX60, w ∈ wsX6_wouldErase := az_inr [42, 43, 44] (by decide +kernel)
set_option maxHeartbeats 4000000 in
set_option maxRecDepth 100000 in
theorem kX6_wouldErase (l : Launch) (g : az_G) (ax : Nat → Nat) (an : Nat → Nat) (au : Nat → Nat) (Y : va_W) (V : az_St) (o : Int32) (h : FX6_wouldErase V = some o) : az_I l yX6_wouldErase wsX6_wouldErase ({ frames := 4, cells := 0, slots := 0, locals := 90 } : Room) [.ref (ax 0)] g (az_w6 g ax an au V Y) o (az_w6 g ax an au V Y) := by
  refine az_body (cc := cX6_wouldErase) (maxL := 3) (ret := (some .int)) (Qc := fun A => az_QI g (az_w6 g ax an au V Y) o A) (by decide +kernel) rfl (Nat.le_of_ble_eq_true rfl) ?_
  intro p e s m args below meth c A hx hb hr hts hown hml hlocks hA hK hP hD hS ls hl
  have hl : lv_has ls 3 [(0, .ref (ax 0))] := hl
  unfold FX6_wouldErase at h
  have hL4 : ∀ (n : Nat) (y1 : Int32) (y2 : Int32) (H : Heap) (locs : List Loc) (ls : Array Slot), FX6_wouldErase_L4 n V y1 y2 = some o → va_P g.1 az_cl (az_w6 g ax an au V Y) H → va_D A (az_w6 g ax an au V Y) → va_S A s.heap H locs → lv_has ls 3 [(0, .ref (ax 0)), (1, .int y1), (2, .int y2)] → W p l e ({ frames := 4, cells := 0, slots := 0, locals := 90 } : Room) s m args below meth c H locs 0 0 (MQ below (az_QI g (az_w6 g ax an au V Y) o A) args s 0 0 A) (F0 m 4 ls []) := by
    intro n
    induction n with
    | zero => intro y1 y2 H locs ls h; exact az_non h
    | succ n ih =>
      intro y1 y2 H locs ls h hP hD hS hl
      rw [FX6_wouldErase_L4_s] at h
      refine lv_iload_n hx hb dX6_wouldErase_4 rfl (lv_at hl 2 rfl) ?_
      refine lv_aload_n hx hb dX6_wouldErase_5 rfl (lv_at hl 0 rfl) ?_
      refine va_get (D := g.1) (ci := 6) (v := .ref (an 0)) (C := RX6) (T := TX6) (N := 3) hx hb hts inX6_wouldErase_RX6 hown hK hP 0 rfl rfl 0 (Nat.le_of_ble_eq_true rfl) (hts _ (List.mem_of_getElem? (i := 1) rfl)) (fun _ h9 => h9) rfl dX6_wouldErase_6 ?_
      refine va_get (D := g.1) (ci := 5) (v := .ref (an 1)) (C := RX5) (T := TX5) (N := 11) hx hb hts inX6_wouldErase_RX5 hown hK hP 1 rfl rfl 0 (Nat.le_of_ble_eq_true rfl) (hts _ (List.mem_of_getElem? (i := 2) rfl)) (fun _ h9 => h9) rfl dX6_wouldErase_9 ?_
      refine va_get (D := g.1) (ci := 3) (v := .int ((V 4) 0)) (C := RX3) (T := TX3) (N := 6) hx hb hts inX6_wouldErase_RX3 hown hK hP 2 rfl rfl 4 (Nat.le_of_ble_eq_true rfl) (hts _ (List.mem_of_getElem? (i := 3) rfl)) (fun _ h9 => h9) rfl dX6_wouldErase_12 ?_
      refine lv_icmp_ge (tgt := 49) hx hb dX6_wouldErase_15 (by decide) (fun c15 => ?_) (fun c15 => ?_)
      · replace h := az_pos c15 h
        refine lv_iload_n hx hb dX6_wouldErase_49 rfl (lv_at hl 1 rfl) ?_
        have hP : va_P g.1 az_cl (az_w6 g ax an au V Y) _ := hP
        have hD : va_D A (az_w6 g ax an au V Y) := hD
        rw [← Option.some.inj h]
        exact az_iret hx hb hr hlocks hK hP hD hS dX6_wouldErase_50
      · replace h := az_neg c15 h
        refine lv_aload_n hx hb dX6_wouldErase_18 rfl (lv_at hl 0 rfl) ?_
        refine va_get (D := g.1) (ci := 6) (v := .ref (an 0)) (C := RX6) (T := TX6) (N := 3) hx hb hts inX6_wouldErase_RX6 hown hK hP 0 rfl rfl 0 (Nat.le_of_ble_eq_true rfl) (hts _ (List.mem_of_getElem? (i := 1) rfl)) (fun _ h9 => h9) rfl dX6_wouldErase_19 ?_
        refine lv_iload_n hx hb dX6_wouldErase_22 rfl (lv_at hl 2 rfl) ?_
        obtain ⟨o23, hc23, h⟩ := az_bnd h
        refine az_callPi (w2 := az_w6 g ax an au V Y) (As := [.int y2]) (rest := []) ⟨hx, hb, hml, hown, hts⟩ hl.1 (kX5_canBeErased l g an V y2 o23 hc23) (cwV 1 hts gX6_wouldErase_X5_canBeErased rfl rfl rfl (by decide +kernel) ⟨(Nat.le_of_ble_eq_true rfl), (Nat.le_of_ble_eq_true rfl)⟩) rfl hK hP hD hS hA (az_pm (az_x ax an au :: (az_cV g an V).take 0) (az_cV g an V) ((az_cV g an V).drop 20 ++ Y)) (az_pm (az_x ax an au :: (az_cV g an V).take 0) (az_cV g an V) ((az_cV g an V).drop 20 ++ Y)).symm 0 rfl rfl rfl (Nat.le_of_ble_eq_true rfl) dX6_wouldErase_23 ⟨Nat.zero_le _, Nat.zero_le _⟩ rfl (fun H locs hP hD hS => ?_)
        have hP : va_P g.1 az_cl (az_w6 g ax an au V Y) _ := hP
        have hD : va_D A (az_w6 g ax an au V Y) := hD
        refine lv_if_eq (tgt := 43) hx hb dX6_wouldErase_26 (by decide) (fun c26 => ?_) (fun c26 => ?_)
        · replace h := az_pos c26 h
          refine lv_iinc (v := y2 + (1 : Int32)) (lv' := [(2, .int (y2 + (1 : Int32))), (0, .ref (ax 0)), (1, .int y1)]) hx hb dX6_wouldErase_43 hl (k := 2) rfl (rfl) (by decide) rfl (fun ls hl => ?_)
          refine lv_goto (tgt := 4) hx hb dX6_wouldErase_46 (by decide) ?_
          have hP : va_P g.1 az_cl (az_w6 g ax an au V Y) _ := hP
          have hD : va_D A (az_w6 g ax an au V Y) := hD
          exact ih y1 (y2 + (1 : Int32)) _ _ ls h hP hD hS (lv_sub hl [1, 2, 0] rfl)
        · replace h := az_neg c26 h
          refine lv_aload_n hx hb dX6_wouldErase_29 rfl (lv_at hl 0 rfl) ?_
          refine va_get (D := g.1) (ci := 6) (v := .ref (an 0)) (C := RX6) (T := TX6) (N := 3) hx hb hts inX6_wouldErase_RX6 hown hK hP 0 rfl rfl 0 (Nat.le_of_ble_eq_true rfl) (hts _ (List.mem_of_getElem? (i := 1) rfl)) (fun _ h9 => h9) rfl dX6_wouldErase_30 ?_
          refine lv_iload_n hx hb dX6_wouldErase_33 rfl (lv_at hl 2 rfl) ?_
          obtain ⟨o34, hc34, h⟩ := az_bnd h
          refine az_callPi (w2 := az_w6 g ax an au V Y) (As := [.int y2]) (rest := []) ⟨hx, hb, hml, hown, hts⟩ hl.1 (kX5_advancesMissingIn l g an V y2 o34 hc34) (cwV 1 hts gX6_wouldErase_X5_advancesMissingIn rfl rfl rfl (by decide +kernel) ⟨(Nat.le_of_ble_eq_true rfl), (Nat.le_of_ble_eq_true rfl)⟩) rfl hK hP hD hS hA (az_pm (az_x ax an au :: (az_cV g an V).take 0) (az_cV g an V) ((az_cV g an V).drop 20 ++ Y)) (az_pm (az_x ax an au :: (az_cV g an V).take 0) (az_cV g an V) ((az_cV g an V).drop 20 ++ Y)).symm 0 rfl rfl rfl (Nat.le_of_ble_eq_true rfl) dX6_wouldErase_34 ⟨Nat.zero_le _, Nat.zero_le _⟩ rfl (fun H locs hP hD hS => ?_)
          have hP : va_P g.1 az_cl (az_w6 g ax an au V Y) _ := hP
          have hD : va_D A (az_w6 g ax an au V Y) := hD
          refine lv_if_ne (tgt := 43) hx hb dX6_wouldErase_37 (by decide) (fun c37 => ?_) (fun c37 => ?_)
          · replace h := az_neg c37 h
            refine lv_iinc (v := y2 + (1 : Int32)) (lv' := [(2, .int (y2 + (1 : Int32))), (0, .ref (ax 0)), (1, .int y1)]) hx hb dX6_wouldErase_43 hl (k := 2) rfl (rfl) (by decide) rfl (fun ls hl => ?_)
            refine lv_goto (tgt := 4) hx hb dX6_wouldErase_46 (by decide) ?_
            have hP : va_P g.1 az_cl (az_w6 g ax an au V Y) _ := hP
            have hD : va_D A (az_w6 g ax an au V Y) := hD
            exact ih y1 (y2 + (1 : Int32)) _ _ ls h hP hD hS (lv_sub hl [1, 2, 0] rfl)
          · replace h := az_pos c37 h
            refine lv_iinc (v := y1 + (1 : Int32)) (lv' := [(1, .int (y1 + (1 : Int32))), (0, .ref (ax 0)), (2, .int y2)]) hx hb dX6_wouldErase_40 hl (k := 1) rfl (rfl) (by decide) rfl (fun ls hl => ?_)
            refine lv_iinc (v := y2 + (1 : Int32)) (lv' := [(2, .int (y2 + (1 : Int32))), (1, .int (y1 + (1 : Int32))), (0, .ref (ax 0))]) hx hb dX6_wouldErase_43 hl (k := 2) rfl (rfl) (by decide) rfl (fun ls hl => ?_)
            refine lv_goto (tgt := 4) hx hb dX6_wouldErase_46 (by decide) ?_
            have hP : va_P g.1 az_cl (az_w6 g ax an au V Y) _ := hP
            have hD : va_D A (az_w6 g ax an au V Y) := hD
            exact ih (y1 + (1 : Int32)) (y2 + (1 : Int32)) _ _ ls h hP hD hS (lv_sub hl [2, 1, 0] rfl)
  refine lv_iconst (v := (0 : Int32)) hx hb dX6_wouldErase_0 (by decide) ?_
  refine lv_istore_n (lv' := [(1, .int (0 : Int32)), (0, .ref (ax 0))]) hx hb dX6_wouldErase_1 rfl hl (by decide) rfl (fun ls hl => ?_)
  refine lv_iconst (v := (0 : Int32)) hx hb dX6_wouldErase_2 (by decide) ?_
  refine lv_istore_n (lv' := [(2, .int (0 : Int32)), (1, .int (0 : Int32)), (0, .ref (ax 0))]) hx hb dX6_wouldErase_3 rfl hl (by decide) rfl (fun ls hl => ?_)
  have hP : va_P g.1 az_cl (az_w6 g ax an au V Y) _ := hP
  have hD : va_D A (az_w6 g ax an au V Y) := hD
  exact hL4 az_fuel (0 : Int32) (0 : Int32) _ _ ls h hP hD hS (lv_sub hl [2, 1, 0] rfl)

def FX6_advancesToErase (V : az_St) (x1 : Int32) : Option (Nat × Int32) := (FX6_checkSegment V x1).bind (fun o2 => if o2 = 0 then ((FX5_canBeErased V x1).bind (fun o10 => (FX6_checkElement o10).bind (fun o13 => if o13 = 0 then ((FX5_advancesMissingIn V x1).bind (fun o21 => some (0, o21))) else some (o13, (0 : Int32))))) else some (o2, (0 : Int32)))
theorem inX6_advancesToErase_RX6 : ∀ w ∈ wsX60, w ∈ wsX6_advancesToErase := az_inr [60, 61, 62] (by decide +kernel)
set_option maxHeartbeats 4000000 in
set_option maxRecDepth 100000 in
theorem kX6_advancesToErase (l : Launch) (hst : l.stackTraces = false) (g : az_G) (sa : Nat → Nat) (ax : Nat → Nat) (an : Nat → Nat) (au : Nat → Nat) (Y : va_W) (V : az_St) (x1 : Int32) (o : Nat × Int32) (h : FX6_advancesToErase V x1 = some o) : az_TI l yX6_advancesToErase wsX6_advancesToErase ({ frames := 8, cells := 2, slots := 12, locals := 141 } : Room) [.ref (ax 0), .int x1] g sa (az_w6 g ax an au V Y) o.1 o.2 (az_w6 g ax an au V Y) 2 := by
  refine az_bodyT (cc := cX6_advancesToErase) (maxL := 2) (ret := (some .int)) (mc := 2) (ms := 12) (Qc := fun A => az_QTI g (az_w6 g ax an au V Y) o.1 o.2 A) (XC := fun A => az_XT g (az_w6 g ax an au V Y) o.1 A) (by decide +kernel) rfl (Nat.le_of_ble_eq_true rfl) ?_
  intro p e s m args below meth c A hx hb hr hts hown hml hlocks hex hcx hA hK hP hD hS ls hl
  have hl : lv_has ls 2 [(0, .ref (ax 0)), (1, .int x1)] := hl
  unfold FX6_advancesToErase at h
  refine lv_aload_n hx hb dX6_advancesToErase_0 rfl (lv_at hl 0 rfl) ?_
  refine lv_iload_n hx hb dX6_advancesToErase_1 rfl (lv_at hl 1 rfl) ?_
  obtain ⟨o2, hc2, h⟩ := az_bnd h
  refine az_callVT (As := [.int x1]) (rest := []) ⟨hx, hb, hml, hown, hts⟩ hl.1 (kX6_checkSegment l hst g sa ax an au Y V x1 o2 hc2) (cwV 1 hts gX6_advancesToErase_X6_checkSegment rfl rfl rfl (by decide +kernel) ⟨(Nat.le_of_ble_eq_true rfl), (Nat.le_of_ble_eq_true rfl)⟩) rfl hK hcx hP hD hS hA 0 rfl rfl rfl (Nat.le_of_ble_eq_true rfl) dX6_advancesToErase_2 ⟨(Nat.le_of_ble_eq_true rfl), (Nat.le_of_ble_eq_true rfl)⟩ rfl (fun n2 ce q9 H locs hP hS hce hcv hcl => ?_) (fun c2 H locs hP hS => ?_)
  · replace h := az_neg n2 h
    have hP : va_P g.1 az_cl (az_w6 g ax an au V Y) _ := hP
    have hD : va_D A (az_w6 g ax an au V Y) := hD
    rw [← Option.some.inj h]
    exact az_outT n2 hex hlocks hce hcv hcl hK hP hD hS (Nat.le_of_ble_eq_true rfl) (Nat.le_of_ble_eq_true rfl)
  replace h := az_pos c2 h
  refine lv_aload_n hx hb dX6_advancesToErase_5 rfl (lv_at hl 0 rfl) ?_
  refine va_get (D := g.1) (ci := 6) (v := .ref (an 0)) (C := RX6) (T := TX6) (N := 3) hx hb hts inX6_advancesToErase_RX6 hown hK hP 0 rfl rfl 0 (Nat.le_of_ble_eq_true rfl) (hts _ (List.mem_of_getElem? (i := 1) rfl)) (fun _ h9 => h9) rfl dX6_advancesToErase_6 ?_
  refine lv_iload_n hx hb dX6_advancesToErase_9 rfl (lv_at hl 1 rfl) ?_
  obtain ⟨o10, hc10, h⟩ := az_bnd h
  refine az_callPi (w2 := az_w6 g ax an au V Y) (As := [.int x1]) (rest := []) ⟨hx, hb, hml, hown, hts⟩ hl.1 (kX5_canBeErased l g an V x1 o10 hc10) (cwV 1 hts gX6_advancesToErase_X5_canBeErased rfl rfl rfl (by decide +kernel) ⟨(Nat.le_of_ble_eq_true rfl), (Nat.le_of_ble_eq_true rfl)⟩) rfl hK hP hD hS hA (az_pm (az_x ax an au :: (az_cV g an V).take 0) (az_cV g an V) ((az_cV g an V).drop 20 ++ Y)) (az_pm (az_x ax an au :: (az_cV g an V).take 0) (az_cV g an V) ((az_cV g an V).drop 20 ++ Y)).symm 0 rfl rfl rfl (Nat.le_of_ble_eq_true rfl) dX6_advancesToErase_10 ⟨(Nat.le_of_ble_eq_true rfl), (Nat.le_of_ble_eq_true rfl)⟩ rfl (fun H locs hP hD hS => ?_)
  have hP : va_P g.1 az_cl (az_w6 g ax an au V Y) _ := hP
  have hD : va_D A (az_w6 g ax an au V Y) := hD
  obtain ⟨o13, hc13, h⟩ := az_bnd h
  refine az_callST (As := [.int o10]) (rest := []) ⟨hx, hb, hml, hown, hts⟩ hl.1 (kX6_checkElement l hst g sa o10 o13 hc13) (va_cwS 1 hts gX6_advancesToErase_X6_checkElement rfl rfl rfl (by decide +kernel) ⟨(Nat.le_of_ble_eq_true rfl), (Nat.le_of_ble_eq_true rfl)⟩) rfl hK hcx hP hS hA (Nat.le_of_ble_eq_true rfl) dX6_advancesToErase_13 ⟨(Nat.le_of_ble_eq_true rfl), (Nat.le_of_ble_eq_true rfl)⟩ rfl (fun n13 ce q9 H locs hP hS hce hcv hcl => ?_) (fun c13 H locs hP hS => ?_)
  · replace h := az_neg n13 h
    have hP : va_P g.1 az_cl (az_w6 g ax an au V Y) _ := hP
    have hD : va_D A (az_w6 g ax an au V Y) := hD
    rw [← Option.some.inj h]
    exact az_outT n13 hex hlocks hce hcv hcl hK hP hD hS (Nat.le_of_ble_eq_true rfl) (Nat.le_of_ble_eq_true rfl)
  replace h := az_pos c13 h
  refine lv_aload_n hx hb dX6_advancesToErase_16 rfl (lv_at hl 0 rfl) ?_
  refine va_get (D := g.1) (ci := 6) (v := .ref (an 0)) (C := RX6) (T := TX6) (N := 3) hx hb hts inX6_advancesToErase_RX6 hown hK hP 0 rfl rfl 0 (Nat.le_of_ble_eq_true rfl) (hts _ (List.mem_of_getElem? (i := 1) rfl)) (fun _ h9 => h9) rfl dX6_advancesToErase_17 ?_
  refine lv_iload_n hx hb dX6_advancesToErase_20 rfl (lv_at hl 1 rfl) ?_
  obtain ⟨o21, hc21, h⟩ := az_bnd h
  refine az_callPi (w2 := az_w6 g ax an au V Y) (As := [.int x1]) (rest := []) ⟨hx, hb, hml, hown, hts⟩ hl.1 (kX5_advancesMissingIn l g an V x1 o21 hc21) (cwV 1 hts gX6_advancesToErase_X5_advancesMissingIn rfl rfl rfl (by decide +kernel) ⟨(Nat.le_of_ble_eq_true rfl), (Nat.le_of_ble_eq_true rfl)⟩) rfl hK hP hD hS hA (az_pm (az_x ax an au :: (az_cV g an V).take 0) (az_cV g an V) ((az_cV g an V).drop 20 ++ Y)) (az_pm (az_x ax an au :: (az_cV g an V).take 0) (az_cV g an V) ((az_cV g an V).drop 20 ++ Y)).symm 0 rfl rfl rfl (Nat.le_of_ble_eq_true rfl) dX6_advancesToErase_21 ⟨(Nat.le_of_ble_eq_true rfl), (Nat.le_of_ble_eq_true rfl)⟩ rfl (fun H locs hP hD hS => ?_)
  have hP : va_P g.1 az_cl (az_w6 g ax an au V Y) _ := hP
  have hD : va_D A (az_w6 g ax an au V Y) := hD
  have hP : va_P g.1 az_cl (az_w6 g ax an au V Y) _ := hP
  have hD : va_D A (az_w6 g ax an au V Y) := hD
  rw [← Option.some.inj h]
  exact az_iretT hx hb hr hlocks hK hP hD hS dX6_advancesToErase_24 (Nat.le_of_ble_eq_true rfl) (Nat.le_of_ble_eq_true rfl)

def FX6_relocate (V : az_St) (T : az_St) (S : Nat → az_St) (hs : Nat → Int32) (x1 : Int32) : Option (Nat × Int32 × (Nat → az_St) × (Nat → Int32) × (Nat → Int32) × (Nat → Int32) × (Nat → Int32) × (Nat → Int32) × (Nat → Int32) × (Nat → Int32) × (Nat → Int32) × (Nat → Int32) × (Nat → Int32) × (Nat → Int32) × (Nat → Int32)) := (FX6_checkSegment V x1).bind (fun o2 => if o2 = 0 then (if az_in x1 10 = true then if (V 0) x1.toNatClampNeg = (2 : Int32) then ((FX6_checkState (1 : Int32)).bind (fun o26 => if o26 = 0 then ((FX5_useOf V x1).bind (fun o34 => (FX5_roomForRelocation V ).bind (fun o41 => if o41 < o34 then ((FX6_checkState (0 : Int32)).bind (fun o52 => if o52 = 0 then ((FX1_save S hs V).bind (fun o63 => (FX5_moveAll V x1).bind (fun o71 => some (0, o71.1, o63.1, o71.2.1, o71.2.2.1, o71.2.2.2.1, o71.2.2.2.2.1, o71.2.2.2.2.2.1, o71.2.2.2.2.2.2.1, o71.2.2.2.2.2.2.2.1, o71.2.2.2.2.2.2.2.2.1, o71.2.2.2.2.2.2.2.2.2.1, o71.2.2.2.2.2.2.2.2.2.2.1, o71.2.2.2.2.2.2.2.2.2.2.2, o63.2)))) else some (o52, (0 : Int32), S, (V 0), (V 2), (V 3), (V 5), (V 6), (V 7), (V 8), (V 9), (V 14), (V 15), (V 16), hs))) else ((FX6_checkState (1 : Int32)).bind (fun o52 => if o52 = 0 then ((FX1_save S hs V).bind (fun o63 => (FX5_moveAll V x1).bind (fun o71 => some (0, o71.1, o63.1, o71.2.1, o71.2.2.1, o71.2.2.2.1, o71.2.2.2.2.1, o71.2.2.2.2.2.1, o71.2.2.2.2.2.2.1, o71.2.2.2.2.2.2.2.1, o71.2.2.2.2.2.2.2.2.1, o71.2.2.2.2.2.2.2.2.2.1, o71.2.2.2.2.2.2.2.2.2.2.1, o71.2.2.2.2.2.2.2.2.2.2.2, o63.2)))) else some (o52, (0 : Int32), S, (V 0), (V 2), (V 3), (V 5), (V 6), (V 7), (V 8), (V 9), (V 14), (V 15), (V 16), hs)))))) else some (o26, (0 : Int32), S, (V 0), (V 2), (V 3), (V 5), (V 6), (V 7), (V 8), (V 9), (V 14), (V 15), (V 16), hs))) else ((FX6_checkState (0 : Int32)).bind (fun o26 => if o26 = 0 then ((FX5_useOf V x1).bind (fun o34 => (FX5_roomForRelocation V ).bind (fun o41 => if o41 < o34 then ((FX6_checkState (0 : Int32)).bind (fun o52 => if o52 = 0 then ((FX1_save S hs V).bind (fun o63 => (FX5_moveAll V x1).bind (fun o71 => some (0, o71.1, o63.1, o71.2.1, o71.2.2.1, o71.2.2.2.1, o71.2.2.2.2.1, o71.2.2.2.2.2.1, o71.2.2.2.2.2.2.1, o71.2.2.2.2.2.2.2.1, o71.2.2.2.2.2.2.2.2.1, o71.2.2.2.2.2.2.2.2.2.1, o71.2.2.2.2.2.2.2.2.2.2.1, o71.2.2.2.2.2.2.2.2.2.2.2, o63.2)))) else some (o52, (0 : Int32), S, (V 0), (V 2), (V 3), (V 5), (V 6), (V 7), (V 8), (V 9), (V 14), (V 15), (V 16), hs))) else ((FX6_checkState (1 : Int32)).bind (fun o52 => if o52 = 0 then ((FX1_save S hs V).bind (fun o63 => (FX5_moveAll V x1).bind (fun o71 => some (0, o71.1, o63.1, o71.2.1, o71.2.2.1, o71.2.2.2.1, o71.2.2.2.2.1, o71.2.2.2.2.2.1, o71.2.2.2.2.2.2.1, o71.2.2.2.2.2.2.2.1, o71.2.2.2.2.2.2.2.2.1, o71.2.2.2.2.2.2.2.2.2.1, o71.2.2.2.2.2.2.2.2.2.2.1, o71.2.2.2.2.2.2.2.2.2.2.2, o63.2)))) else some (o52, (0 : Int32), S, (V 0), (V 2), (V 3), (V 5), (V 6), (V 7), (V 8), (V 9), (V 14), (V 15), (V 16), hs)))))) else some (o26, (0 : Int32), S, (V 0), (V 2), (V 3), (V 5), (V 6), (V 7), (V 8), (V 9), (V 14), (V 15), (V 16), hs))) else none) else some (o2, (0 : Int32), S, (V 0), (V 2), (V 3), (V 5), (V 6), (V 7), (V 8), (V 9), (V 14), (V 15), (V 16), hs))
theorem inX6_relocate_RX3 : ∀ w ∈ wsX30, w ∈ wsX6_relocate := az_inr [179, 180, 181, 182, 183, 184] (by decide +kernel)
theorem inX6_relocate_RX5 : ∀ w ∈ wsX50, w ∈ wsX6_relocate := az_inr [168, 169, 170, 171, 172, 173, 174, 175, 176, 177, 178] (by decide +kernel)
theorem inX6_relocate_RX6 : ∀ w ∈ wsX60, w ∈ wsX6_relocate := az_inr [165, 166, 167] (by decide +kernel)
set_option maxHeartbeats 4000000 in
set_option maxRecDepth 100000 in
theorem kX6_relocate (l : Launch) (hst : l.stackTraces = false) (g : az_G) (sa : Nat → Nat) (ax : Nat → Nat) (an : Nat → Nat) (au : Nat → Nat) (aw : Nat → Nat → Nat) (V : az_St) (T : az_St) (S : Nat → az_St) (hs : Nat → Int32) (x1 : Int32) (o : Nat × Int32 × (Nat → az_St) × (Nat → Int32) × (Nat → Int32) × (Nat → Int32) × (Nat → Int32) × (Nat → Int32) × (Nat → Int32) × (Nat → Int32) × (Nat → Int32) × (Nat → Int32) × (Nat → Int32) × (Nat → Int32) × (Nat → Int32)) (h : FX6_relocate V T S hs x1 = some o) : az_TI l yX6_relocate wsX6_relocate ({ frames := 8, cells := 3, slots := 18, locals := 164 } : Room) [.ref (ax 0), .int x1] g sa (az_w6 g ax an au V (az_cV g au T ++ az_cH g ax aw S hs)) o.1 o.2.1 (az_w6 g ax an au (va_up (va_up (va_up (va_up (va_up (va_up (va_up (va_up (va_up (va_up (va_up V 0 o.2.2.2.1) 2 o.2.2.2.2.1) 3 o.2.2.2.2.2.1) 5 o.2.2.2.2.2.2.1) 6 o.2.2.2.2.2.2.2.1) 7 o.2.2.2.2.2.2.2.2.1) 8 o.2.2.2.2.2.2.2.2.2.1) 9 o.2.2.2.2.2.2.2.2.2.2.1) 14 o.2.2.2.2.2.2.2.2.2.2.2.1) 15 o.2.2.2.2.2.2.2.2.2.2.2.2.1) 16 o.2.2.2.2.2.2.2.2.2.2.2.2.2.1) (az_cV g au T ++ az_cH g ax aw o.2.2.1 o.2.2.2.2.2.2.2.2.2.2.2.2.2.2)) 3 := by
  refine az_bodyT (cc := cX6_relocate) (maxL := 2) (ret := (some .int)) (mc := 3) (ms := 18) (Qc := fun A => az_QTI g (az_w6 g ax an au (va_up (va_up (va_up (va_up (va_up (va_up (va_up (va_up (va_up (va_up (va_up V 0 o.2.2.2.1) 2 o.2.2.2.2.1) 3 o.2.2.2.2.2.1) 5 o.2.2.2.2.2.2.1) 6 o.2.2.2.2.2.2.2.1) 7 o.2.2.2.2.2.2.2.2.1) 8 o.2.2.2.2.2.2.2.2.2.1) 9 o.2.2.2.2.2.2.2.2.2.2.1) 14 o.2.2.2.2.2.2.2.2.2.2.2.1) 15 o.2.2.2.2.2.2.2.2.2.2.2.2.1) 16 o.2.2.2.2.2.2.2.2.2.2.2.2.2.1) (az_cV g au T ++ az_cH g ax aw o.2.2.1 o.2.2.2.2.2.2.2.2.2.2.2.2.2.2)) o.1 o.2.1 A) (XC := fun A => az_XT g (az_w6 g ax an au (va_up (va_up (va_up (va_up (va_up (va_up (va_up (va_up (va_up (va_up (va_up V 0 o.2.2.2.1) 2 o.2.2.2.2.1) 3 o.2.2.2.2.2.1) 5 o.2.2.2.2.2.2.1) 6 o.2.2.2.2.2.2.2.1) 7 o.2.2.2.2.2.2.2.2.1) 8 o.2.2.2.2.2.2.2.2.2.1) 9 o.2.2.2.2.2.2.2.2.2.2.1) 14 o.2.2.2.2.2.2.2.2.2.2.2.1) 15 o.2.2.2.2.2.2.2.2.2.2.2.2.1) 16 o.2.2.2.2.2.2.2.2.2.2.2.2.2.1) (az_cV g au T ++ az_cH g ax aw o.2.2.1 o.2.2.2.2.2.2.2.2.2.2.2.2.2.2)) o.1 A) (by decide +kernel) rfl (Nat.le_of_ble_eq_true rfl) ?_
  intro p e s m args below meth c A hx hb hr hts hown hml hlocks hex hcx hA hK hP hD hS ls hl
  have hl : lv_has ls 2 [(0, .ref (ax 0)), (1, .int x1)] := hl
  unfold FX6_relocate at h
  refine lv_aload_n hx hb dX6_relocate_0 rfl (lv_at hl 0 rfl) ?_
  refine lv_iload_n hx hb dX6_relocate_1 rfl (lv_at hl 1 rfl) ?_
  obtain ⟨o2, hc2, h⟩ := az_bnd h
  refine az_callVT (As := [.int x1]) (rest := []) ⟨hx, hb, hml, hown, hts⟩ hl.1 (kX6_checkSegment l hst g sa ax an au (az_cV g au T ++ az_cH g ax aw S hs) V x1 o2 hc2) (cwV 1 hts gX6_relocate_X6_checkSegment rfl rfl rfl (by decide +kernel) ⟨(Nat.le_of_ble_eq_true rfl), (Nat.le_of_ble_eq_true rfl)⟩) rfl hK hcx hP hD hS hA 0 rfl rfl rfl (Nat.le_of_ble_eq_true rfl) dX6_relocate_2 ⟨(Nat.le_of_ble_eq_true rfl), (Nat.le_of_ble_eq_true rfl)⟩ rfl (fun n2 ce q9 H locs hP hS hce hcv hcl => ?_) (fun c2 H locs hP hS => ?_)
  · replace h := az_neg n2 h
    have hP : va_P g.1 az_cl (az_w6 g ax an au (va_up (va_up (va_up (va_up (va_up (va_up (va_up (va_up (va_up (va_up (va_up V 0 (V 0)) 2 (V 2)) 3 (V 3)) 5 (V 5)) 6 (V 6)) 7 (V 7)) 8 (V 8)) 9 (V 9)) 14 (V 14)) 15 (V 15)) 16 (V 16)) (az_cV g au T ++ az_cH g ax aw S hs)) _ := hP
    have hD : va_D A (az_w6 g ax an au (va_up (va_up (va_up (va_up (va_up (va_up (va_up (va_up (va_up (va_up (va_up V 0 (V 0)) 2 (V 2)) 3 (V 3)) 5 (V 5)) 6 (V 6)) 7 (V 7)) 8 (V 8)) 9 (V 9)) 14 (V 14)) 15 (V 15)) 16 (V 16)) (az_cV g au T ++ az_cH g ax aw S hs)) := hD
    rw [← Option.some.inj h]
    exact az_outT n2 hex hlocks hce hcv hcl hK hP hD hS (Nat.le_of_ble_eq_true rfl) (Nat.le_of_ble_eq_true rfl)
  replace h := az_pos c2 h
  refine lv_aload_n hx hb dX6_relocate_5 rfl (lv_at hl 0 rfl) ?_
  refine va_get (D := g.1) (ci := 6) (v := .ref (an 0)) (C := RX6) (T := TX6) (N := 3) hx hb hts inX6_relocate_RX6 hown hK hP 0 rfl rfl 0 (Nat.le_of_ble_eq_true rfl) (hts _ (List.mem_of_getElem? (i := 1) rfl)) (fun _ h9 => h9) rfl dX6_relocate_6 ?_
  refine va_get (D := g.1) (ci := 5) (v := .ref (an 1)) (C := RX5) (T := TX5) (N := 11) hx hb hts inX6_relocate_RX5 hown hK hP 1 rfl rfl 0 (Nat.le_of_ble_eq_true rfl) (hts _ (List.mem_of_getElem? (i := 2) rfl)) (fun _ h9 => h9) rfl dX6_relocate_9 ?_
  refine va_get (D := g.1) (ci := 3) (v := .ref (an 2)) (C := RX3) (T := TX3) (N := 6) hx hb hts inX6_relocate_RX3 hown hK hP 2 rfl rfl 0 (Nat.le_of_ble_eq_true rfl) (hts _ (List.mem_of_getElem? (i := 3) rfl)) (fun _ h9 => h9) rfl dX6_relocate_12 ?_
  refine lv_iload_n hx hb dX6_relocate_15 rfl (lv_at hl 1 rfl) ?_
  obtain ⟨i16, h⟩ := az_ite h
  refine va_iald (D := g.1) (f := (V 0)) hx hb hK hP 3 0 rfl rfl (az_vin i16) dX6_relocate_16 ?_
  refine lv_iconst (v := (2 : Int32)) hx hb dX6_relocate_17 (by decide) ?_
  refine lv_icmp_ne (tgt := 25) hx hb dX6_relocate_18 (by decide) (fun c18 => ?_) (fun c18 => ?_)
  · replace h := az_neg c18 h
    refine lv_iconst (v := (0 : Int32)) hx hb dX6_relocate_25 (by decide) ?_
    obtain ⟨o26, hc26, h⟩ := az_bnd h
    refine az_callST (As := [.int (0 : Int32)]) (rest := []) ⟨hx, hb, hml, hown, hts⟩ hl.1 (kX6_checkState l hst g sa (0 : Int32) o26 hc26) (va_cwS 1 hts gX6_relocate_X6_checkState rfl rfl rfl (by decide +kernel) ⟨(Nat.le_of_ble_eq_true rfl), (Nat.le_of_ble_eq_true rfl)⟩) rfl hK hcx hP hS hA (Nat.le_of_ble_eq_true rfl) dX6_relocate_26 ⟨(Nat.le_of_ble_eq_true rfl), (Nat.le_of_ble_eq_true rfl)⟩ rfl (fun n26 ce q9 H locs hP hS hce hcv hcl => ?_) (fun c26 H locs hP hS => ?_)
    · replace h := az_neg n26 h
      have hP : va_P g.1 az_cl (az_w6 g ax an au (va_up (va_up (va_up (va_up (va_up (va_up (va_up (va_up (va_up (va_up (va_up V 0 (V 0)) 2 (V 2)) 3 (V 3)) 5 (V 5)) 6 (V 6)) 7 (V 7)) 8 (V 8)) 9 (V 9)) 14 (V 14)) 15 (V 15)) 16 (V 16)) (az_cV g au T ++ az_cH g ax aw S hs)) _ := hP
      have hD : va_D A (az_w6 g ax an au (va_up (va_up (va_up (va_up (va_up (va_up (va_up (va_up (va_up (va_up (va_up V 0 (V 0)) 2 (V 2)) 3 (V 3)) 5 (V 5)) 6 (V 6)) 7 (V 7)) 8 (V 8)) 9 (V 9)) 14 (V 14)) 15 (V 15)) 16 (V 16)) (az_cV g au T ++ az_cH g ax aw S hs)) := hD
      rw [← Option.some.inj h]
      exact az_outT n26 hex hlocks hce hcv hcl hK hP hD hS (Nat.le_of_ble_eq_true rfl) (Nat.le_of_ble_eq_true rfl)
    replace h := az_pos c26 h
    refine lv_aload_n hx hb dX6_relocate_29 rfl (lv_at hl 0 rfl) ?_
    refine va_get (D := g.1) (ci := 6) (v := .ref (an 0)) (C := RX6) (T := TX6) (N := 3) hx hb hts inX6_relocate_RX6 hown hK hP 0 rfl rfl 0 (Nat.le_of_ble_eq_true rfl) (hts _ (List.mem_of_getElem? (i := 1) rfl)) (fun _ h9 => h9) rfl dX6_relocate_30 ?_
    refine lv_iload_n hx hb dX6_relocate_33 rfl (lv_at hl 1 rfl) ?_
    obtain ⟨o34, hc34, h⟩ := az_bnd h
    refine az_callPi (w2 := az_w6 g ax an au V (az_cV g au T ++ az_cH g ax aw S hs)) (As := [.int x1]) (rest := []) ⟨hx, hb, hml, hown, hts⟩ hl.1 (kX5_useOf l g an V x1 o34 hc34) (cwV 1 hts gX6_relocate_X5_useOf rfl rfl rfl (by decide +kernel) ⟨(Nat.le_of_ble_eq_true rfl), (Nat.le_of_ble_eq_true rfl)⟩) rfl hK hP hD hS hA (az_pm (az_x ax an au :: (az_cV g an V).take 0) (az_cV g an V) ((az_cV g an V).drop 20 ++ (az_cV g au T ++ az_cH g ax aw S hs))) (az_pm (az_x ax an au :: (az_cV g an V).take 0) (az_cV g an V) ((az_cV g an V).drop 20 ++ (az_cV g au T ++ az_cH g ax aw S hs))).symm 0 rfl rfl rfl (Nat.le_of_ble_eq_true rfl) dX6_relocate_34 ⟨(Nat.le_of_ble_eq_true rfl), (Nat.le_of_ble_eq_true rfl)⟩ rfl (fun H locs hP hD hS => ?_)
    have hP : va_P g.1 az_cl (az_w6 g ax an au V (az_cV g au T ++ az_cH g ax aw S hs)) _ := hP
    have hD : va_D A (az_w6 g ax an au V (az_cV g au T ++ az_cH g ax aw S hs)) := hD
    refine lv_aload_n hx hb dX6_relocate_37 rfl (lv_at hl 0 rfl) ?_
    refine va_get (D := g.1) (ci := 6) (v := .ref (an 0)) (C := RX6) (T := TX6) (N := 3) hx hb hts inX6_relocate_RX6 hown hK hP 0 rfl rfl 0 (Nat.le_of_ble_eq_true rfl) (hts _ (List.mem_of_getElem? (i := 1) rfl)) (fun _ h9 => h9) rfl dX6_relocate_38 ?_
    obtain ⟨o41, hc41, h⟩ := az_bnd h
    refine az_callPi (w2 := az_w6 g ax an au V (az_cV g au T ++ az_cH g ax aw S hs)) (As := []) (rest := [.int o34]) ⟨hx, hb, hml, hown, hts⟩ hl.1 (kX5_roomForRelocation l g an V  o41 hc41) (cwV 0 hts gX6_relocate_X5_roomForRelocation rfl rfl rfl (by decide +kernel) ⟨(Nat.le_of_ble_eq_true rfl), (Nat.le_of_ble_eq_true rfl)⟩) rfl hK hP hD hS hA (az_pm (az_x ax an au :: (az_cV g an V).take 0) (az_cV g an V) ((az_cV g an V).drop 20 ++ (az_cV g au T ++ az_cH g ax aw S hs))) (az_pm (az_x ax an au :: (az_cV g an V).take 0) (az_cV g an V) ((az_cV g an V).drop 20 ++ (az_cV g au T ++ az_cH g ax aw S hs))).symm 0 rfl rfl rfl (Nat.le_of_ble_eq_true rfl) dX6_relocate_41 ⟨(Nat.le_of_ble_eq_true rfl), (Nat.le_of_ble_eq_true rfl)⟩ rfl (fun H locs hP hD hS => ?_)
    have hP : va_P g.1 az_cl (az_w6 g ax an au V (az_cV g au T ++ az_cH g ax aw S hs)) _ := hP
    have hD : va_D A (az_w6 g ax an au V (az_cV g au T ++ az_cH g ax aw S hs)) := hD
    refine lv_icmp_gt (tgt := 51) hx hb dX6_relocate_44 (by decide) (fun c44 => ?_) (fun c44 => ?_)
    · replace h := az_pos c44 h
      refine lv_iconst (v := (0 : Int32)) hx hb dX6_relocate_51 (by decide) ?_
      obtain ⟨o52, hc52, h⟩ := az_bnd h
      refine az_callST (As := [.int (0 : Int32)]) (rest := []) ⟨hx, hb, hml, hown, hts⟩ hl.1 (kX6_checkState l hst g sa (0 : Int32) o52 hc52) (va_cwS 1 hts gX6_relocate_X6_checkState rfl rfl rfl (by decide +kernel) ⟨(Nat.le_of_ble_eq_true rfl), (Nat.le_of_ble_eq_true rfl)⟩) rfl hK hcx hP hS hA (Nat.le_of_ble_eq_true rfl) dX6_relocate_52 ⟨(Nat.le_of_ble_eq_true rfl), (Nat.le_of_ble_eq_true rfl)⟩ rfl (fun n52 ce q9 H locs hP hS hce hcv hcl => ?_) (fun c52 H locs hP hS => ?_)
      · replace h := az_neg n52 h
        have hP : va_P g.1 az_cl (az_w6 g ax an au (va_up (va_up (va_up (va_up (va_up (va_up (va_up (va_up (va_up (va_up (va_up V 0 (V 0)) 2 (V 2)) 3 (V 3)) 5 (V 5)) 6 (V 6)) 7 (V 7)) 8 (V 8)) 9 (V 9)) 14 (V 14)) 15 (V 15)) 16 (V 16)) (az_cV g au T ++ az_cH g ax aw S hs)) _ := hP
        have hD : va_D A (az_w6 g ax an au (va_up (va_up (va_up (va_up (va_up (va_up (va_up (va_up (va_up (va_up (va_up V 0 (V 0)) 2 (V 2)) 3 (V 3)) 5 (V 5)) 6 (V 6)) 7 (V 7)) 8 (V 8)) 9 (V 9)) 14 (V 14)) 15 (V 15)) 16 (V 16)) (az_cV g au T ++ az_cH g ax aw S hs)) := hD
        rw [← Option.some.inj h]
        exact az_outT n52 hex hlocks hce hcv hcl hK hP hD hS (Nat.le_of_ble_eq_true rfl) (Nat.le_of_ble_eq_true rfl)
      replace h := az_pos c52 h
      refine lv_aload_n hx hb dX6_relocate_55 rfl (lv_at hl 0 rfl) ?_
      refine va_get (D := g.1) (ci := 6) (v := .ref (ax 1)) (C := RX6) (T := TX6) (N := 3) hx hb hts inX6_relocate_RX6 hown hK hP 0 rfl rfl 2 (Nat.le_of_ble_eq_true rfl) (hts _ (List.mem_of_getElem? (i := 4) rfl)) (fun _ h9 => h9) rfl dX6_relocate_56 ?_
      refine lv_aload_n hx hb dX6_relocate_59 rfl (lv_at hl 0 rfl) ?_
      refine va_get (D := g.1) (ci := 6) (v := .ref (an 0)) (C := RX6) (T := TX6) (N := 3) hx hb hts inX6_relocate_RX6 hown hK hP 0 rfl rfl 0 (Nat.le_of_ble_eq_true rfl) (hts _ (List.mem_of_getElem? (i := 1) rfl)) (fun _ h9 => h9) rfl dX6_relocate_60 ?_
      obtain ⟨o63, hc63, h⟩ := az_bnd h
      refine az_callPv (w2 := az_w6 g ax an au V (az_cV g au T ++ az_cH g ax aw o63.1 o63.2)) (As := [.ref (an 0)]) (rest := []) ⟨hx, hb, hml, hown, hts⟩ hl.1 (kX1_save l g ax an aw S hs V o63 hc63) (cwV 1 hts gX6_relocate_X1_save rfl rfl rfl (by decide +kernel) ⟨(Nat.le_of_ble_eq_true rfl), (Nat.le_of_ble_eq_true rfl)⟩) rfl hK hP hD hS hA (az_pH (az_x ax an au) (az_cV g an V) (az_cV g au T) (az_cH g ax aw S hs)) (az_pH (az_x ax an au) (az_cV g an V) (az_cV g au T) (az_cH g ax aw o63.1 o63.2)).symm 0 rfl rfl rfl (Nat.le_of_ble_eq_true rfl) dX6_relocate_63 ⟨(Nat.le_of_ble_eq_true rfl), (Nat.le_of_ble_eq_true rfl)⟩ rfl (fun H locs hP hD hS => ?_)
      have hP : va_P g.1 az_cl (az_w6 g ax an au V (az_cV g au T ++ az_cH g ax aw o63.1 o63.2)) _ := hP
      have hD : va_D A (az_w6 g ax an au V (az_cV g au T ++ az_cH g ax aw o63.1 o63.2)) := hD
      refine lv_aload_n hx hb dX6_relocate_66 rfl (lv_at hl 0 rfl) ?_
      refine va_get (D := g.1) (ci := 6) (v := .ref (an 0)) (C := RX6) (T := TX6) (N := 3) hx hb hts inX6_relocate_RX6 hown hK hP 0 rfl rfl 0 (Nat.le_of_ble_eq_true rfl) (hts _ (List.mem_of_getElem? (i := 1) rfl)) (fun _ h9 => h9) rfl dX6_relocate_67 ?_
      refine lv_iload_n hx hb dX6_relocate_70 rfl (lv_at hl 1 rfl) ?_
      obtain ⟨o71, hc71, h⟩ := az_bnd h
      refine az_callPi (w2 := az_w6 g ax an au (va_up (va_up (va_up (va_up (va_up (va_up (va_up (va_up (va_up (va_up (va_up V 0 o71.2.1) 2 o71.2.2.1) 3 o71.2.2.2.1) 5 o71.2.2.2.2.1) 6 o71.2.2.2.2.2.1) 7 o71.2.2.2.2.2.2.1) 8 o71.2.2.2.2.2.2.2.1) 9 o71.2.2.2.2.2.2.2.2.1) 14 o71.2.2.2.2.2.2.2.2.2.1) 15 o71.2.2.2.2.2.2.2.2.2.2.1) 16 o71.2.2.2.2.2.2.2.2.2.2.2) (az_cV g au T ++ az_cH g ax aw o63.1 o63.2)) (As := [.int x1]) (rest := []) ⟨hx, hb, hml, hown, hts⟩ hl.1 (kX5_moveAll l g an V x1 o71 hc71) (cwV 1 hts gX6_relocate_X5_moveAll rfl rfl rfl (by decide +kernel) ⟨(Nat.le_of_ble_eq_true rfl), (Nat.le_of_ble_eq_true rfl)⟩) rfl hK hP hD hS hA (az_pm (az_x ax an au :: (az_cV g an V).take 0) (az_cV g an V) ((az_cV g an V).drop 20 ++ (az_cV g au T ++ az_cH g ax aw o63.1 o63.2))) (az_pm (az_x ax an au :: (az_cV g an V).take 0) (az_cV g an (va_up (va_up (va_up (va_up (va_up (va_up (va_up (va_up (va_up (va_up (va_up V 0 o71.2.1) 2 o71.2.2.1) 3 o71.2.2.2.1) 5 o71.2.2.2.2.1) 6 o71.2.2.2.2.2.1) 7 o71.2.2.2.2.2.2.1) 8 o71.2.2.2.2.2.2.2.1) 9 o71.2.2.2.2.2.2.2.2.1) 14 o71.2.2.2.2.2.2.2.2.2.1) 15 o71.2.2.2.2.2.2.2.2.2.2.1) 16 o71.2.2.2.2.2.2.2.2.2.2.2)) ((az_cV g an V).drop 20 ++ (az_cV g au T ++ az_cH g ax aw o63.1 o63.2))).symm 0 rfl rfl rfl (Nat.le_of_ble_eq_true rfl) dX6_relocate_71 ⟨(Nat.le_of_ble_eq_true rfl), (Nat.le_of_ble_eq_true rfl)⟩ rfl (fun H locs hP hD hS => ?_)
      have hP : va_P g.1 az_cl (az_w6 g ax an au (va_up (va_up (va_up (va_up (va_up (va_up (va_up (va_up (va_up (va_up (va_up V 0 o71.2.1) 2 o71.2.2.1) 3 o71.2.2.2.1) 5 o71.2.2.2.2.1) 6 o71.2.2.2.2.2.1) 7 o71.2.2.2.2.2.2.1) 8 o71.2.2.2.2.2.2.2.1) 9 o71.2.2.2.2.2.2.2.2.1) 14 o71.2.2.2.2.2.2.2.2.2.1) 15 o71.2.2.2.2.2.2.2.2.2.2.1) 16 o71.2.2.2.2.2.2.2.2.2.2.2) (az_cV g au T ++ az_cH g ax aw o63.1 o63.2)) _ := hP
      have hD : va_D A (az_w6 g ax an au (va_up (va_up (va_up (va_up (va_up (va_up (va_up (va_up (va_up (va_up (va_up V 0 o71.2.1) 2 o71.2.2.1) 3 o71.2.2.2.1) 5 o71.2.2.2.2.1) 6 o71.2.2.2.2.2.1) 7 o71.2.2.2.2.2.2.1) 8 o71.2.2.2.2.2.2.2.1) 9 o71.2.2.2.2.2.2.2.2.1) 14 o71.2.2.2.2.2.2.2.2.2.1) 15 o71.2.2.2.2.2.2.2.2.2.2.1) 16 o71.2.2.2.2.2.2.2.2.2.2.2) (az_cV g au T ++ az_cH g ax aw o63.1 o63.2)) := hD
      have hP : va_P g.1 az_cl (az_w6 g ax an au (va_up (va_up (va_up (va_up (va_up (va_up (va_up (va_up (va_up (va_up (va_up V 0 o71.2.1) 2 o71.2.2.1) 3 o71.2.2.2.1) 5 o71.2.2.2.2.1) 6 o71.2.2.2.2.2.1) 7 o71.2.2.2.2.2.2.1) 8 o71.2.2.2.2.2.2.2.1) 9 o71.2.2.2.2.2.2.2.2.1) 14 o71.2.2.2.2.2.2.2.2.2.1) 15 o71.2.2.2.2.2.2.2.2.2.2.1) 16 o71.2.2.2.2.2.2.2.2.2.2.2) (az_cV g au T ++ az_cH g ax aw o63.1 o63.2)) _ := hP
      have hD : va_D A (az_w6 g ax an au (va_up (va_up (va_up (va_up (va_up (va_up (va_up (va_up (va_up (va_up (va_up V 0 o71.2.1) 2 o71.2.2.1) 3 o71.2.2.2.1) 5 o71.2.2.2.2.1) 6 o71.2.2.2.2.2.1) 7 o71.2.2.2.2.2.2.1) 8 o71.2.2.2.2.2.2.2.1) 9 o71.2.2.2.2.2.2.2.2.1) 14 o71.2.2.2.2.2.2.2.2.2.1) 15 o71.2.2.2.2.2.2.2.2.2.2.1) 16 o71.2.2.2.2.2.2.2.2.2.2.2) (az_cV g au T ++ az_cH g ax aw o63.1 o63.2)) := hD
      rw [← Option.some.inj h]
      exact az_iretT hx hb hr hlocks hK hP hD hS dX6_relocate_74 (Nat.le_of_ble_eq_true rfl) (Nat.le_of_ble_eq_true rfl)
    · replace h := az_neg c44 h
      refine lv_iconst (v := (1 : Int32)) hx hb dX6_relocate_47 (by decide) ?_
      refine lv_goto (tgt := 52) hx hb dX6_relocate_48 (by decide) ?_
      obtain ⟨o52, hc52, h⟩ := az_bnd h
      refine az_callST (As := [.int (1 : Int32)]) (rest := []) ⟨hx, hb, hml, hown, hts⟩ hl.1 (kX6_checkState l hst g sa (1 : Int32) o52 hc52) (va_cwS 1 hts gX6_relocate_X6_checkState rfl rfl rfl (by decide +kernel) ⟨(Nat.le_of_ble_eq_true rfl), (Nat.le_of_ble_eq_true rfl)⟩) rfl hK hcx hP hS hA (Nat.le_of_ble_eq_true rfl) dX6_relocate_52 ⟨(Nat.le_of_ble_eq_true rfl), (Nat.le_of_ble_eq_true rfl)⟩ rfl (fun n52 ce q9 H locs hP hS hce hcv hcl => ?_) (fun c52 H locs hP hS => ?_)
      · replace h := az_neg n52 h
        have hP : va_P g.1 az_cl (az_w6 g ax an au (va_up (va_up (va_up (va_up (va_up (va_up (va_up (va_up (va_up (va_up (va_up V 0 (V 0)) 2 (V 2)) 3 (V 3)) 5 (V 5)) 6 (V 6)) 7 (V 7)) 8 (V 8)) 9 (V 9)) 14 (V 14)) 15 (V 15)) 16 (V 16)) (az_cV g au T ++ az_cH g ax aw S hs)) _ := hP
        have hD : va_D A (az_w6 g ax an au (va_up (va_up (va_up (va_up (va_up (va_up (va_up (va_up (va_up (va_up (va_up V 0 (V 0)) 2 (V 2)) 3 (V 3)) 5 (V 5)) 6 (V 6)) 7 (V 7)) 8 (V 8)) 9 (V 9)) 14 (V 14)) 15 (V 15)) 16 (V 16)) (az_cV g au T ++ az_cH g ax aw S hs)) := hD
        rw [← Option.some.inj h]
        exact az_outT n52 hex hlocks hce hcv hcl hK hP hD hS (Nat.le_of_ble_eq_true rfl) (Nat.le_of_ble_eq_true rfl)
      replace h := az_pos c52 h
      refine lv_aload_n hx hb dX6_relocate_55 rfl (lv_at hl 0 rfl) ?_
      refine va_get (D := g.1) (ci := 6) (v := .ref (ax 1)) (C := RX6) (T := TX6) (N := 3) hx hb hts inX6_relocate_RX6 hown hK hP 0 rfl rfl 2 (Nat.le_of_ble_eq_true rfl) (hts _ (List.mem_of_getElem? (i := 4) rfl)) (fun _ h9 => h9) rfl dX6_relocate_56 ?_
      refine lv_aload_n hx hb dX6_relocate_59 rfl (lv_at hl 0 rfl) ?_
      refine va_get (D := g.1) (ci := 6) (v := .ref (an 0)) (C := RX6) (T := TX6) (N := 3) hx hb hts inX6_relocate_RX6 hown hK hP 0 rfl rfl 0 (Nat.le_of_ble_eq_true rfl) (hts _ (List.mem_of_getElem? (i := 1) rfl)) (fun _ h9 => h9) rfl dX6_relocate_60 ?_
      obtain ⟨o63, hc63, h⟩ := az_bnd h
      refine az_callPv (w2 := az_w6 g ax an au V (az_cV g au T ++ az_cH g ax aw o63.1 o63.2)) (As := [.ref (an 0)]) (rest := []) ⟨hx, hb, hml, hown, hts⟩ hl.1 (kX1_save l g ax an aw S hs V o63 hc63) (cwV 1 hts gX6_relocate_X1_save rfl rfl rfl (by decide +kernel) ⟨(Nat.le_of_ble_eq_true rfl), (Nat.le_of_ble_eq_true rfl)⟩) rfl hK hP hD hS hA (az_pH (az_x ax an au) (az_cV g an V) (az_cV g au T) (az_cH g ax aw S hs)) (az_pH (az_x ax an au) (az_cV g an V) (az_cV g au T) (az_cH g ax aw o63.1 o63.2)).symm 0 rfl rfl rfl (Nat.le_of_ble_eq_true rfl) dX6_relocate_63 ⟨(Nat.le_of_ble_eq_true rfl), (Nat.le_of_ble_eq_true rfl)⟩ rfl (fun H locs hP hD hS => ?_)
      have hP : va_P g.1 az_cl (az_w6 g ax an au V (az_cV g au T ++ az_cH g ax aw o63.1 o63.2)) _ := hP
      have hD : va_D A (az_w6 g ax an au V (az_cV g au T ++ az_cH g ax aw o63.1 o63.2)) := hD
      refine lv_aload_n hx hb dX6_relocate_66 rfl (lv_at hl 0 rfl) ?_
      refine va_get (D := g.1) (ci := 6) (v := .ref (an 0)) (C := RX6) (T := TX6) (N := 3) hx hb hts inX6_relocate_RX6 hown hK hP 0 rfl rfl 0 (Nat.le_of_ble_eq_true rfl) (hts _ (List.mem_of_getElem? (i := 1) rfl)) (fun _ h9 => h9) rfl dX6_relocate_67 ?_
      refine lv_iload_n hx hb dX6_relocate_70 rfl (lv_at hl 1 rfl) ?_
      obtain ⟨o71, hc71, h⟩ := az_bnd h
      refine az_callPi (w2 := az_w6 g ax an au (va_up (va_up (va_up (va_up (va_up (va_up (va_up (va_up (va_up (va_up (va_up V 0 o71.2.1) 2 o71.2.2.1) 3 o71.2.2.2.1) 5 o71.2.2.2.2.1) 6 o71.2.2.2.2.2.1) 7 o71.2.2.2.2.2.2.1) 8 o71.2.2.2.2.2.2.2.1) 9 o71.2.2.2.2.2.2.2.2.1) 14 o71.2.2.2.2.2.2.2.2.2.1) 15 o71.2.2.2.2.2.2.2.2.2.2.1) 16 o71.2.2.2.2.2.2.2.2.2.2.2) (az_cV g au T ++ az_cH g ax aw o63.1 o63.2)) (As := [.int x1]) (rest := []) ⟨hx, hb, hml, hown, hts⟩ hl.1 (kX5_moveAll l g an V x1 o71 hc71) (cwV 1 hts gX6_relocate_X5_moveAll rfl rfl rfl (by decide +kernel) ⟨(Nat.le_of_ble_eq_true rfl), (Nat.le_of_ble_eq_true rfl)⟩) rfl hK hP hD hS hA (az_pm (az_x ax an au :: (az_cV g an V).take 0) (az_cV g an V) ((az_cV g an V).drop 20 ++ (az_cV g au T ++ az_cH g ax aw o63.1 o63.2))) (az_pm (az_x ax an au :: (az_cV g an V).take 0) (az_cV g an (va_up (va_up (va_up (va_up (va_up (va_up (va_up (va_up (va_up (va_up (va_up V 0 o71.2.1) 2 o71.2.2.1) 3 o71.2.2.2.1) 5 o71.2.2.2.2.1) 6 o71.2.2.2.2.2.1) 7 o71.2.2.2.2.2.2.1) 8 o71.2.2.2.2.2.2.2.1) 9 o71.2.2.2.2.2.2.2.2.1) 14 o71.2.2.2.2.2.2.2.2.2.1) 15 o71.2.2.2.2.2.2.2.2.2.2.1) 16 o71.2.2.2.2.2.2.2.2.2.2.2)) ((az_cV g an V).drop 20 ++ (az_cV g au T ++ az_cH g ax aw o63.1 o63.2))).symm 0 rfl rfl rfl (Nat.le_of_ble_eq_true rfl) dX6_relocate_71 ⟨(Nat.le_of_ble_eq_true rfl), (Nat.le_of_ble_eq_true rfl)⟩ rfl (fun H locs hP hD hS => ?_)
      have hP : va_P g.1 az_cl (az_w6 g ax an au (va_up (va_up (va_up (va_up (va_up (va_up (va_up (va_up (va_up (va_up (va_up V 0 o71.2.1) 2 o71.2.2.1) 3 o71.2.2.2.1) 5 o71.2.2.2.2.1) 6 o71.2.2.2.2.2.1) 7 o71.2.2.2.2.2.2.1) 8 o71.2.2.2.2.2.2.2.1) 9 o71.2.2.2.2.2.2.2.2.1) 14 o71.2.2.2.2.2.2.2.2.2.1) 15 o71.2.2.2.2.2.2.2.2.2.2.1) 16 o71.2.2.2.2.2.2.2.2.2.2.2) (az_cV g au T ++ az_cH g ax aw o63.1 o63.2)) _ := hP
      have hD : va_D A (az_w6 g ax an au (va_up (va_up (va_up (va_up (va_up (va_up (va_up (va_up (va_up (va_up (va_up V 0 o71.2.1) 2 o71.2.2.1) 3 o71.2.2.2.1) 5 o71.2.2.2.2.1) 6 o71.2.2.2.2.2.1) 7 o71.2.2.2.2.2.2.1) 8 o71.2.2.2.2.2.2.2.1) 9 o71.2.2.2.2.2.2.2.2.1) 14 o71.2.2.2.2.2.2.2.2.2.1) 15 o71.2.2.2.2.2.2.2.2.2.2.1) 16 o71.2.2.2.2.2.2.2.2.2.2.2) (az_cV g au T ++ az_cH g ax aw o63.1 o63.2)) := hD
      have hP : va_P g.1 az_cl (az_w6 g ax an au (va_up (va_up (va_up (va_up (va_up (va_up (va_up (va_up (va_up (va_up (va_up V 0 o71.2.1) 2 o71.2.2.1) 3 o71.2.2.2.1) 5 o71.2.2.2.2.1) 6 o71.2.2.2.2.2.1) 7 o71.2.2.2.2.2.2.1) 8 o71.2.2.2.2.2.2.2.1) 9 o71.2.2.2.2.2.2.2.2.1) 14 o71.2.2.2.2.2.2.2.2.2.1) 15 o71.2.2.2.2.2.2.2.2.2.2.1) 16 o71.2.2.2.2.2.2.2.2.2.2.2) (az_cV g au T ++ az_cH g ax aw o63.1 o63.2)) _ := hP
      have hD : va_D A (az_w6 g ax an au (va_up (va_up (va_up (va_up (va_up (va_up (va_up (va_up (va_up (va_up (va_up V 0 o71.2.1) 2 o71.2.2.1) 3 o71.2.2.2.1) 5 o71.2.2.2.2.1) 6 o71.2.2.2.2.2.1) 7 o71.2.2.2.2.2.2.1) 8 o71.2.2.2.2.2.2.2.1) 9 o71.2.2.2.2.2.2.2.2.1) 14 o71.2.2.2.2.2.2.2.2.2.1) 15 o71.2.2.2.2.2.2.2.2.2.2.1) 16 o71.2.2.2.2.2.2.2.2.2.2.2) (az_cV g au T ++ az_cH g ax aw o63.1 o63.2)) := hD
      rw [← Option.some.inj h]
      exact az_iretT hx hb hr hlocks hK hP hD hS dX6_relocate_74 (Nat.le_of_ble_eq_true rfl) (Nat.le_of_ble_eq_true rfl)
  · replace h := az_pos c18 h
    refine lv_iconst (v := (1 : Int32)) hx hb dX6_relocate_21 (by decide) ?_
    refine lv_goto (tgt := 26) hx hb dX6_relocate_22 (by decide) ?_
    obtain ⟨o26, hc26, h⟩ := az_bnd h
    refine az_callST (As := [.int (1 : Int32)]) (rest := []) ⟨hx, hb, hml, hown, hts⟩ hl.1 (kX6_checkState l hst g sa (1 : Int32) o26 hc26) (va_cwS 1 hts gX6_relocate_X6_checkState rfl rfl rfl (by decide +kernel) ⟨(Nat.le_of_ble_eq_true rfl), (Nat.le_of_ble_eq_true rfl)⟩) rfl hK hcx hP hS hA (Nat.le_of_ble_eq_true rfl) dX6_relocate_26 ⟨(Nat.le_of_ble_eq_true rfl), (Nat.le_of_ble_eq_true rfl)⟩ rfl (fun n26 ce q9 H locs hP hS hce hcv hcl => ?_) (fun c26 H locs hP hS => ?_)
    · replace h := az_neg n26 h
      have hP : va_P g.1 az_cl (az_w6 g ax an au (va_up (va_up (va_up (va_up (va_up (va_up (va_up (va_up (va_up (va_up (va_up V 0 (V 0)) 2 (V 2)) 3 (V 3)) 5 (V 5)) 6 (V 6)) 7 (V 7)) 8 (V 8)) 9 (V 9)) 14 (V 14)) 15 (V 15)) 16 (V 16)) (az_cV g au T ++ az_cH g ax aw S hs)) _ := hP
      have hD : va_D A (az_w6 g ax an au (va_up (va_up (va_up (va_up (va_up (va_up (va_up (va_up (va_up (va_up (va_up V 0 (V 0)) 2 (V 2)) 3 (V 3)) 5 (V 5)) 6 (V 6)) 7 (V 7)) 8 (V 8)) 9 (V 9)) 14 (V 14)) 15 (V 15)) 16 (V 16)) (az_cV g au T ++ az_cH g ax aw S hs)) := hD
      rw [← Option.some.inj h]
      exact az_outT n26 hex hlocks hce hcv hcl hK hP hD hS (Nat.le_of_ble_eq_true rfl) (Nat.le_of_ble_eq_true rfl)
    replace h := az_pos c26 h
    refine lv_aload_n hx hb dX6_relocate_29 rfl (lv_at hl 0 rfl) ?_
    refine va_get (D := g.1) (ci := 6) (v := .ref (an 0)) (C := RX6) (T := TX6) (N := 3) hx hb hts inX6_relocate_RX6 hown hK hP 0 rfl rfl 0 (Nat.le_of_ble_eq_true rfl) (hts _ (List.mem_of_getElem? (i := 1) rfl)) (fun _ h9 => h9) rfl dX6_relocate_30 ?_
    refine lv_iload_n hx hb dX6_relocate_33 rfl (lv_at hl 1 rfl) ?_
    obtain ⟨o34, hc34, h⟩ := az_bnd h
    refine az_callPi (w2 := az_w6 g ax an au V (az_cV g au T ++ az_cH g ax aw S hs)) (As := [.int x1]) (rest := []) ⟨hx, hb, hml, hown, hts⟩ hl.1 (kX5_useOf l g an V x1 o34 hc34) (cwV 1 hts gX6_relocate_X5_useOf rfl rfl rfl (by decide +kernel) ⟨(Nat.le_of_ble_eq_true rfl), (Nat.le_of_ble_eq_true rfl)⟩) rfl hK hP hD hS hA (az_pm (az_x ax an au :: (az_cV g an V).take 0) (az_cV g an V) ((az_cV g an V).drop 20 ++ (az_cV g au T ++ az_cH g ax aw S hs))) (az_pm (az_x ax an au :: (az_cV g an V).take 0) (az_cV g an V) ((az_cV g an V).drop 20 ++ (az_cV g au T ++ az_cH g ax aw S hs))).symm 0 rfl rfl rfl (Nat.le_of_ble_eq_true rfl) dX6_relocate_34 ⟨(Nat.le_of_ble_eq_true rfl), (Nat.le_of_ble_eq_true rfl)⟩ rfl (fun H locs hP hD hS => ?_)
    have hP : va_P g.1 az_cl (az_w6 g ax an au V (az_cV g au T ++ az_cH g ax aw S hs)) _ := hP
    have hD : va_D A (az_w6 g ax an au V (az_cV g au T ++ az_cH g ax aw S hs)) := hD
    refine lv_aload_n hx hb dX6_relocate_37 rfl (lv_at hl 0 rfl) ?_
    refine va_get (D := g.1) (ci := 6) (v := .ref (an 0)) (C := RX6) (T := TX6) (N := 3) hx hb hts inX6_relocate_RX6 hown hK hP 0 rfl rfl 0 (Nat.le_of_ble_eq_true rfl) (hts _ (List.mem_of_getElem? (i := 1) rfl)) (fun _ h9 => h9) rfl dX6_relocate_38 ?_
    obtain ⟨o41, hc41, h⟩ := az_bnd h
    refine az_callPi (w2 := az_w6 g ax an au V (az_cV g au T ++ az_cH g ax aw S hs)) (As := []) (rest := [.int o34]) ⟨hx, hb, hml, hown, hts⟩ hl.1 (kX5_roomForRelocation l g an V  o41 hc41) (cwV 0 hts gX6_relocate_X5_roomForRelocation rfl rfl rfl (by decide +kernel) ⟨(Nat.le_of_ble_eq_true rfl), (Nat.le_of_ble_eq_true rfl)⟩) rfl hK hP hD hS hA (az_pm (az_x ax an au :: (az_cV g an V).take 0) (az_cV g an V) ((az_cV g an V).drop 20 ++ (az_cV g au T ++ az_cH g ax aw S hs))) (az_pm (az_x ax an au :: (az_cV g an V).take 0) (az_cV g an V) ((az_cV g an V).drop 20 ++ (az_cV g au T ++ az_cH g ax aw S hs))).symm 0 rfl rfl rfl (Nat.le_of_ble_eq_true rfl) dX6_relocate_41 ⟨(Nat.le_of_ble_eq_true rfl), (Nat.le_of_ble_eq_true rfl)⟩ rfl (fun H locs hP hD hS => ?_)
    have hP : va_P g.1 az_cl (az_w6 g ax an au V (az_cV g au T ++ az_cH g ax aw S hs)) _ := hP
    have hD : va_D A (az_w6 g ax an au V (az_cV g au T ++ az_cH g ax aw S hs)) := hD
    refine lv_icmp_gt (tgt := 51) hx hb dX6_relocate_44 (by decide) (fun c44 => ?_) (fun c44 => ?_)
    · replace h := az_pos c44 h
      refine lv_iconst (v := (0 : Int32)) hx hb dX6_relocate_51 (by decide) ?_
      obtain ⟨o52, hc52, h⟩ := az_bnd h
      refine az_callST (As := [.int (0 : Int32)]) (rest := []) ⟨hx, hb, hml, hown, hts⟩ hl.1 (kX6_checkState l hst g sa (0 : Int32) o52 hc52) (va_cwS 1 hts gX6_relocate_X6_checkState rfl rfl rfl (by decide +kernel) ⟨(Nat.le_of_ble_eq_true rfl), (Nat.le_of_ble_eq_true rfl)⟩) rfl hK hcx hP hS hA (Nat.le_of_ble_eq_true rfl) dX6_relocate_52 ⟨(Nat.le_of_ble_eq_true rfl), (Nat.le_of_ble_eq_true rfl)⟩ rfl (fun n52 ce q9 H locs hP hS hce hcv hcl => ?_) (fun c52 H locs hP hS => ?_)
      · replace h := az_neg n52 h
        have hP : va_P g.1 az_cl (az_w6 g ax an au (va_up (va_up (va_up (va_up (va_up (va_up (va_up (va_up (va_up (va_up (va_up V 0 (V 0)) 2 (V 2)) 3 (V 3)) 5 (V 5)) 6 (V 6)) 7 (V 7)) 8 (V 8)) 9 (V 9)) 14 (V 14)) 15 (V 15)) 16 (V 16)) (az_cV g au T ++ az_cH g ax aw S hs)) _ := hP
        have hD : va_D A (az_w6 g ax an au (va_up (va_up (va_up (va_up (va_up (va_up (va_up (va_up (va_up (va_up (va_up V 0 (V 0)) 2 (V 2)) 3 (V 3)) 5 (V 5)) 6 (V 6)) 7 (V 7)) 8 (V 8)) 9 (V 9)) 14 (V 14)) 15 (V 15)) 16 (V 16)) (az_cV g au T ++ az_cH g ax aw S hs)) := hD
        rw [← Option.some.inj h]
        exact az_outT n52 hex hlocks hce hcv hcl hK hP hD hS (Nat.le_of_ble_eq_true rfl) (Nat.le_of_ble_eq_true rfl)
      replace h := az_pos c52 h
      refine lv_aload_n hx hb dX6_relocate_55 rfl (lv_at hl 0 rfl) ?_
      refine va_get (D := g.1) (ci := 6) (v := .ref (ax 1)) (C := RX6) (T := TX6) (N := 3) hx hb hts inX6_relocate_RX6 hown hK hP 0 rfl rfl 2 (Nat.le_of_ble_eq_true rfl) (hts _ (List.mem_of_getElem? (i := 4) rfl)) (fun _ h9 => h9) rfl dX6_relocate_56 ?_
      refine lv_aload_n hx hb dX6_relocate_59 rfl (lv_at hl 0 rfl) ?_
      refine va_get (D := g.1) (ci := 6) (v := .ref (an 0)) (C := RX6) (T := TX6) (N := 3) hx hb hts inX6_relocate_RX6 hown hK hP 0 rfl rfl 0 (Nat.le_of_ble_eq_true rfl) (hts _ (List.mem_of_getElem? (i := 1) rfl)) (fun _ h9 => h9) rfl dX6_relocate_60 ?_
      obtain ⟨o63, hc63, h⟩ := az_bnd h
      refine az_callPv (w2 := az_w6 g ax an au V (az_cV g au T ++ az_cH g ax aw o63.1 o63.2)) (As := [.ref (an 0)]) (rest := []) ⟨hx, hb, hml, hown, hts⟩ hl.1 (kX1_save l g ax an aw S hs V o63 hc63) (cwV 1 hts gX6_relocate_X1_save rfl rfl rfl (by decide +kernel) ⟨(Nat.le_of_ble_eq_true rfl), (Nat.le_of_ble_eq_true rfl)⟩) rfl hK hP hD hS hA (az_pH (az_x ax an au) (az_cV g an V) (az_cV g au T) (az_cH g ax aw S hs)) (az_pH (az_x ax an au) (az_cV g an V) (az_cV g au T) (az_cH g ax aw o63.1 o63.2)).symm 0 rfl rfl rfl (Nat.le_of_ble_eq_true rfl) dX6_relocate_63 ⟨(Nat.le_of_ble_eq_true rfl), (Nat.le_of_ble_eq_true rfl)⟩ rfl (fun H locs hP hD hS => ?_)
      have hP : va_P g.1 az_cl (az_w6 g ax an au V (az_cV g au T ++ az_cH g ax aw o63.1 o63.2)) _ := hP
      have hD : va_D A (az_w6 g ax an au V (az_cV g au T ++ az_cH g ax aw o63.1 o63.2)) := hD
      refine lv_aload_n hx hb dX6_relocate_66 rfl (lv_at hl 0 rfl) ?_
      refine va_get (D := g.1) (ci := 6) (v := .ref (an 0)) (C := RX6) (T := TX6) (N := 3) hx hb hts inX6_relocate_RX6 hown hK hP 0 rfl rfl 0 (Nat.le_of_ble_eq_true rfl) (hts _ (List.mem_of_getElem? (i := 1) rfl)) (fun _ h9 => h9) rfl dX6_relocate_67 ?_
      refine lv_iload_n hx hb dX6_relocate_70 rfl (lv_at hl 1 rfl) ?_
      obtain ⟨o71, hc71, h⟩ := az_bnd h
      refine az_callPi (w2 := az_w6 g ax an au (va_up (va_up (va_up (va_up (va_up (va_up (va_up (va_up (va_up (va_up (va_up V 0 o71.2.1) 2 o71.2.2.1) 3 o71.2.2.2.1) 5 o71.2.2.2.2.1) 6 o71.2.2.2.2.2.1) 7 o71.2.2.2.2.2.2.1) 8 o71.2.2.2.2.2.2.2.1) 9 o71.2.2.2.2.2.2.2.2.1) 14 o71.2.2.2.2.2.2.2.2.2.1) 15 o71.2.2.2.2.2.2.2.2.2.2.1) 16 o71.2.2.2.2.2.2.2.2.2.2.2) (az_cV g au T ++ az_cH g ax aw o63.1 o63.2)) (As := [.int x1]) (rest := []) ⟨hx, hb, hml, hown, hts⟩ hl.1 (kX5_moveAll l g an V x1 o71 hc71) (cwV 1 hts gX6_relocate_X5_moveAll rfl rfl rfl (by decide +kernel) ⟨(Nat.le_of_ble_eq_true rfl), (Nat.le_of_ble_eq_true rfl)⟩) rfl hK hP hD hS hA (az_pm (az_x ax an au :: (az_cV g an V).take 0) (az_cV g an V) ((az_cV g an V).drop 20 ++ (az_cV g au T ++ az_cH g ax aw o63.1 o63.2))) (az_pm (az_x ax an au :: (az_cV g an V).take 0) (az_cV g an (va_up (va_up (va_up (va_up (va_up (va_up (va_up (va_up (va_up (va_up (va_up V 0 o71.2.1) 2 o71.2.2.1) 3 o71.2.2.2.1) 5 o71.2.2.2.2.1) 6 o71.2.2.2.2.2.1) 7 o71.2.2.2.2.2.2.1) 8 o71.2.2.2.2.2.2.2.1) 9 o71.2.2.2.2.2.2.2.2.1) 14 o71.2.2.2.2.2.2.2.2.2.1) 15 o71.2.2.2.2.2.2.2.2.2.2.1) 16 o71.2.2.2.2.2.2.2.2.2.2.2)) ((az_cV g an V).drop 20 ++ (az_cV g au T ++ az_cH g ax aw o63.1 o63.2))).symm 0 rfl rfl rfl (Nat.le_of_ble_eq_true rfl) dX6_relocate_71 ⟨(Nat.le_of_ble_eq_true rfl), (Nat.le_of_ble_eq_true rfl)⟩ rfl (fun H locs hP hD hS => ?_)
      have hP : va_P g.1 az_cl (az_w6 g ax an au (va_up (va_up (va_up (va_up (va_up (va_up (va_up (va_up (va_up (va_up (va_up V 0 o71.2.1) 2 o71.2.2.1) 3 o71.2.2.2.1) 5 o71.2.2.2.2.1) 6 o71.2.2.2.2.2.1) 7 o71.2.2.2.2.2.2.1) 8 o71.2.2.2.2.2.2.2.1) 9 o71.2.2.2.2.2.2.2.2.1) 14 o71.2.2.2.2.2.2.2.2.2.1) 15 o71.2.2.2.2.2.2.2.2.2.2.1) 16 o71.2.2.2.2.2.2.2.2.2.2.2) (az_cV g au T ++ az_cH g ax aw o63.1 o63.2)) _ := hP
      have hD : va_D A (az_w6 g ax an au (va_up (va_up (va_up (va_up (va_up (va_up (va_up (va_up (va_up (va_up (va_up V 0 o71.2.1) 2 o71.2.2.1) 3 o71.2.2.2.1) 5 o71.2.2.2.2.1) 6 o71.2.2.2.2.2.1) 7 o71.2.2.2.2.2.2.1) 8 o71.2.2.2.2.2.2.2.1) 9 o71.2.2.2.2.2.2.2.2.1) 14 o71.2.2.2.2.2.2.2.2.2.1) 15 o71.2.2.2.2.2.2.2.2.2.2.1) 16 o71.2.2.2.2.2.2.2.2.2.2.2) (az_cV g au T ++ az_cH g ax aw o63.1 o63.2)) := hD
      have hP : va_P g.1 az_cl (az_w6 g ax an au (va_up (va_up (va_up (va_up (va_up (va_up (va_up (va_up (va_up (va_up (va_up V 0 o71.2.1) 2 o71.2.2.1) 3 o71.2.2.2.1) 5 o71.2.2.2.2.1) 6 o71.2.2.2.2.2.1) 7 o71.2.2.2.2.2.2.1) 8 o71.2.2.2.2.2.2.2.1) 9 o71.2.2.2.2.2.2.2.2.1) 14 o71.2.2.2.2.2.2.2.2.2.1) 15 o71.2.2.2.2.2.2.2.2.2.2.1) 16 o71.2.2.2.2.2.2.2.2.2.2.2) (az_cV g au T ++ az_cH g ax aw o63.1 o63.2)) _ := hP
      have hD : va_D A (az_w6 g ax an au (va_up (va_up (va_up (va_up (va_up (va_up (va_up (va_up (va_up (va_up (va_up V 0 o71.2.1) 2 o71.2.2.1) 3 o71.2.2.2.1) 5 o71.2.2.2.2.1) 6 o71.2.2.2.2.2.1) 7 o71.2.2.2.2.2.2.1) 8 o71.2.2.2.2.2.2.2.1) 9 o71.2.2.2.2.2.2.2.2.1) 14 o71.2.2.2.2.2.2.2.2.2.1) 15 o71.2.2.2.2.2.2.2.2.2.2.1) 16 o71.2.2.2.2.2.2.2.2.2.2.2) (az_cV g au T ++ az_cH g ax aw o63.1 o63.2)) := hD
      rw [← Option.some.inj h]
      exact az_iretT hx hb hr hlocks hK hP hD hS dX6_relocate_74 (Nat.le_of_ble_eq_true rfl) (Nat.le_of_ble_eq_true rfl)
    · replace h := az_neg c44 h
      refine lv_iconst (v := (1 : Int32)) hx hb dX6_relocate_47 (by decide) ?_
      refine lv_goto (tgt := 52) hx hb dX6_relocate_48 (by decide) ?_
      obtain ⟨o52, hc52, h⟩ := az_bnd h
      refine az_callST (As := [.int (1 : Int32)]) (rest := []) ⟨hx, hb, hml, hown, hts⟩ hl.1 (kX6_checkState l hst g sa (1 : Int32) o52 hc52) (va_cwS 1 hts gX6_relocate_X6_checkState rfl rfl rfl (by decide +kernel) ⟨(Nat.le_of_ble_eq_true rfl), (Nat.le_of_ble_eq_true rfl)⟩) rfl hK hcx hP hS hA (Nat.le_of_ble_eq_true rfl) dX6_relocate_52 ⟨(Nat.le_of_ble_eq_true rfl), (Nat.le_of_ble_eq_true rfl)⟩ rfl (fun n52 ce q9 H locs hP hS hce hcv hcl => ?_) (fun c52 H locs hP hS => ?_)
      · replace h := az_neg n52 h
        have hP : va_P g.1 az_cl (az_w6 g ax an au (va_up (va_up (va_up (va_up (va_up (va_up (va_up (va_up (va_up (va_up (va_up V 0 (V 0)) 2 (V 2)) 3 (V 3)) 5 (V 5)) 6 (V 6)) 7 (V 7)) 8 (V 8)) 9 (V 9)) 14 (V 14)) 15 (V 15)) 16 (V 16)) (az_cV g au T ++ az_cH g ax aw S hs)) _ := hP
        have hD : va_D A (az_w6 g ax an au (va_up (va_up (va_up (va_up (va_up (va_up (va_up (va_up (va_up (va_up (va_up V 0 (V 0)) 2 (V 2)) 3 (V 3)) 5 (V 5)) 6 (V 6)) 7 (V 7)) 8 (V 8)) 9 (V 9)) 14 (V 14)) 15 (V 15)) 16 (V 16)) (az_cV g au T ++ az_cH g ax aw S hs)) := hD
        rw [← Option.some.inj h]
        exact az_outT n52 hex hlocks hce hcv hcl hK hP hD hS (Nat.le_of_ble_eq_true rfl) (Nat.le_of_ble_eq_true rfl)
      replace h := az_pos c52 h
      refine lv_aload_n hx hb dX6_relocate_55 rfl (lv_at hl 0 rfl) ?_
      refine va_get (D := g.1) (ci := 6) (v := .ref (ax 1)) (C := RX6) (T := TX6) (N := 3) hx hb hts inX6_relocate_RX6 hown hK hP 0 rfl rfl 2 (Nat.le_of_ble_eq_true rfl) (hts _ (List.mem_of_getElem? (i := 4) rfl)) (fun _ h9 => h9) rfl dX6_relocate_56 ?_
      refine lv_aload_n hx hb dX6_relocate_59 rfl (lv_at hl 0 rfl) ?_
      refine va_get (D := g.1) (ci := 6) (v := .ref (an 0)) (C := RX6) (T := TX6) (N := 3) hx hb hts inX6_relocate_RX6 hown hK hP 0 rfl rfl 0 (Nat.le_of_ble_eq_true rfl) (hts _ (List.mem_of_getElem? (i := 1) rfl)) (fun _ h9 => h9) rfl dX6_relocate_60 ?_
      obtain ⟨o63, hc63, h⟩ := az_bnd h
      refine az_callPv (w2 := az_w6 g ax an au V (az_cV g au T ++ az_cH g ax aw o63.1 o63.2)) (As := [.ref (an 0)]) (rest := []) ⟨hx, hb, hml, hown, hts⟩ hl.1 (kX1_save l g ax an aw S hs V o63 hc63) (cwV 1 hts gX6_relocate_X1_save rfl rfl rfl (by decide +kernel) ⟨(Nat.le_of_ble_eq_true rfl), (Nat.le_of_ble_eq_true rfl)⟩) rfl hK hP hD hS hA (az_pH (az_x ax an au) (az_cV g an V) (az_cV g au T) (az_cH g ax aw S hs)) (az_pH (az_x ax an au) (az_cV g an V) (az_cV g au T) (az_cH g ax aw o63.1 o63.2)).symm 0 rfl rfl rfl (Nat.le_of_ble_eq_true rfl) dX6_relocate_63 ⟨(Nat.le_of_ble_eq_true rfl), (Nat.le_of_ble_eq_true rfl)⟩ rfl (fun H locs hP hD hS => ?_)
      have hP : va_P g.1 az_cl (az_w6 g ax an au V (az_cV g au T ++ az_cH g ax aw o63.1 o63.2)) _ := hP
      have hD : va_D A (az_w6 g ax an au V (az_cV g au T ++ az_cH g ax aw o63.1 o63.2)) := hD
      refine lv_aload_n hx hb dX6_relocate_66 rfl (lv_at hl 0 rfl) ?_
      refine va_get (D := g.1) (ci := 6) (v := .ref (an 0)) (C := RX6) (T := TX6) (N := 3) hx hb hts inX6_relocate_RX6 hown hK hP 0 rfl rfl 0 (Nat.le_of_ble_eq_true rfl) (hts _ (List.mem_of_getElem? (i := 1) rfl)) (fun _ h9 => h9) rfl dX6_relocate_67 ?_
      refine lv_iload_n hx hb dX6_relocate_70 rfl (lv_at hl 1 rfl) ?_
      obtain ⟨o71, hc71, h⟩ := az_bnd h
      refine az_callPi (w2 := az_w6 g ax an au (va_up (va_up (va_up (va_up (va_up (va_up (va_up (va_up (va_up (va_up (va_up V 0 o71.2.1) 2 o71.2.2.1) 3 o71.2.2.2.1) 5 o71.2.2.2.2.1) 6 o71.2.2.2.2.2.1) 7 o71.2.2.2.2.2.2.1) 8 o71.2.2.2.2.2.2.2.1) 9 o71.2.2.2.2.2.2.2.2.1) 14 o71.2.2.2.2.2.2.2.2.2.1) 15 o71.2.2.2.2.2.2.2.2.2.2.1) 16 o71.2.2.2.2.2.2.2.2.2.2.2) (az_cV g au T ++ az_cH g ax aw o63.1 o63.2)) (As := [.int x1]) (rest := []) ⟨hx, hb, hml, hown, hts⟩ hl.1 (kX5_moveAll l g an V x1 o71 hc71) (cwV 1 hts gX6_relocate_X5_moveAll rfl rfl rfl (by decide +kernel) ⟨(Nat.le_of_ble_eq_true rfl), (Nat.le_of_ble_eq_true rfl)⟩) rfl hK hP hD hS hA (az_pm (az_x ax an au :: (az_cV g an V).take 0) (az_cV g an V) ((az_cV g an V).drop 20 ++ (az_cV g au T ++ az_cH g ax aw o63.1 o63.2))) (az_pm (az_x ax an au :: (az_cV g an V).take 0) (az_cV g an (va_up (va_up (va_up (va_up (va_up (va_up (va_up (va_up (va_up (va_up (va_up V 0 o71.2.1) 2 o71.2.2.1) 3 o71.2.2.2.1) 5 o71.2.2.2.2.1) 6 o71.2.2.2.2.2.1) 7 o71.2.2.2.2.2.2.1) 8 o71.2.2.2.2.2.2.2.1) 9 o71.2.2.2.2.2.2.2.2.1) 14 o71.2.2.2.2.2.2.2.2.2.1) 15 o71.2.2.2.2.2.2.2.2.2.2.1) 16 o71.2.2.2.2.2.2.2.2.2.2.2)) ((az_cV g an V).drop 20 ++ (az_cV g au T ++ az_cH g ax aw o63.1 o63.2))).symm 0 rfl rfl rfl (Nat.le_of_ble_eq_true rfl) dX6_relocate_71 ⟨(Nat.le_of_ble_eq_true rfl), (Nat.le_of_ble_eq_true rfl)⟩ rfl (fun H locs hP hD hS => ?_)
      have hP : va_P g.1 az_cl (az_w6 g ax an au (va_up (va_up (va_up (va_up (va_up (va_up (va_up (va_up (va_up (va_up (va_up V 0 o71.2.1) 2 o71.2.2.1) 3 o71.2.2.2.1) 5 o71.2.2.2.2.1) 6 o71.2.2.2.2.2.1) 7 o71.2.2.2.2.2.2.1) 8 o71.2.2.2.2.2.2.2.1) 9 o71.2.2.2.2.2.2.2.2.1) 14 o71.2.2.2.2.2.2.2.2.2.1) 15 o71.2.2.2.2.2.2.2.2.2.2.1) 16 o71.2.2.2.2.2.2.2.2.2.2.2) (az_cV g au T ++ az_cH g ax aw o63.1 o63.2)) _ := hP
      have hD : va_D A (az_w6 g ax an au (va_up (va_up (va_up (va_up (va_up (va_up (va_up (va_up (va_up (va_up (va_up V 0 o71.2.1) 2 o71.2.2.1) 3 o71.2.2.2.1) 5 o71.2.2.2.2.1) 6 o71.2.2.2.2.2.1) 7 o71.2.2.2.2.2.2.1) 8 o71.2.2.2.2.2.2.2.1) 9 o71.2.2.2.2.2.2.2.2.1) 14 o71.2.2.2.2.2.2.2.2.2.1) 15 o71.2.2.2.2.2.2.2.2.2.2.1) 16 o71.2.2.2.2.2.2.2.2.2.2.2) (az_cV g au T ++ az_cH g ax aw o63.1 o63.2)) := hD
      have hP : va_P g.1 az_cl (az_w6 g ax an au (va_up (va_up (va_up (va_up (va_up (va_up (va_up (va_up (va_up (va_up (va_up V 0 o71.2.1) 2 o71.2.2.1) 3 o71.2.2.2.1) 5 o71.2.2.2.2.1) 6 o71.2.2.2.2.2.1) 7 o71.2.2.2.2.2.2.1) 8 o71.2.2.2.2.2.2.2.1) 9 o71.2.2.2.2.2.2.2.2.1) 14 o71.2.2.2.2.2.2.2.2.2.1) 15 o71.2.2.2.2.2.2.2.2.2.2.1) 16 o71.2.2.2.2.2.2.2.2.2.2.2) (az_cV g au T ++ az_cH g ax aw o63.1 o63.2)) _ := hP
      have hD : va_D A (az_w6 g ax an au (va_up (va_up (va_up (va_up (va_up (va_up (va_up (va_up (va_up (va_up (va_up V 0 o71.2.1) 2 o71.2.2.1) 3 o71.2.2.2.1) 5 o71.2.2.2.2.1) 6 o71.2.2.2.2.2.1) 7 o71.2.2.2.2.2.2.1) 8 o71.2.2.2.2.2.2.2.1) 9 o71.2.2.2.2.2.2.2.2.1) 14 o71.2.2.2.2.2.2.2.2.2.1) 15 o71.2.2.2.2.2.2.2.2.2.2.1) 16 o71.2.2.2.2.2.2.2.2.2.2.2) (az_cV g au T ++ az_cH g ax aw o63.1 o63.2)) := hD
      rw [← Option.some.inj h]
      exact az_iretT hx hb hr hlocks hK hP hD hS dX6_relocate_74 (Nat.le_of_ble_eq_true rfl) (Nat.le_of_ble_eq_true rfl)

def FX6_victim (V : az_St) (x1 : Int32) : Option (Nat × Int32) := (FX6_isBetween x1 (0 : Int32) (2 : Int32)).bind (fun o3 => (FX6_checkArgument o3).bind (fun o6 => if o6 = 0 then ((FX5_chooseVictim V x1).bind (fun o14 => if o14 = (-1 : Int32) then ((FX6_checkElement (0 : Int32)).bind (fun o28 => if o28 = 0 then (some (0, o14)) else some (o28, (0 : Int32)))) else ((FX6_checkElement (1 : Int32)).bind (fun o28 => if o28 = 0 then (some (0, o14)) else some (o28, (0 : Int32)))))) else some (o6, (0 : Int32))))
theorem inX6_victim_RX6 : ∀ w ∈ wsX60, w ∈ wsX6_victim := az_inr [58, 59, 60] (by decide +kernel)
set_option maxHeartbeats 4000000 in
set_option maxRecDepth 100000 in
theorem kX6_victim (l : Launch) (hst : l.stackTraces = false) (g : az_G) (sa : Nat → Nat) (ax : Nat → Nat) (an : Nat → Nat) (au : Nat → Nat) (Y : va_W) (V : az_St) (x1 : Int32) (o : Nat × Int32) (h : FX6_victim V x1 = some o) : az_TI l yX6_victim wsX6_victim ({ frames := 7, cells := 2, slots := 12, locals := 137 } : Room) [.ref (ax 0), .int x1] g sa (az_w6 g ax an au V Y) o.1 o.2 (az_w6 g ax an au V Y) 2 := by
  refine az_bodyT (cc := cX6_victim) (maxL := 3) (ret := (some .int)) (mc := 2) (ms := 12) (Qc := fun A => az_QTI g (az_w6 g ax an au V Y) o.1 o.2 A) (XC := fun A => az_XT g (az_w6 g ax an au V Y) o.1 A) (by decide +kernel) rfl (Nat.le_of_ble_eq_true rfl) ?_
  intro p e s m args below meth c A hx hb hr hts hown hml hlocks hex hcx hA hK hP hD hS ls hl
  have hl : lv_has ls 3 [(0, .ref (ax 0)), (1, .int x1)] := hl
  unfold FX6_victim at h
  refine lv_iload_n hx hb dX6_victim_0 rfl (lv_at hl 1 rfl) ?_
  refine lv_iconst (v := (0 : Int32)) hx hb dX6_victim_1 (by decide) ?_
  refine lv_iconst (v := (2 : Int32)) hx hb dX6_victim_2 (by decide) ?_
  obtain ⟨o3, hc3, h⟩ := az_bnd h
  refine az_callS0 (As := [.int x1, .int (0 : Int32), .int (2 : Int32)]) (rest := []) ⟨hx, hb, hml, hown, hts⟩ hl.1 (kX6_isBetween l g x1 (0 : Int32) (2 : Int32) o3 hc3) (va_cwS 3 hts gX6_victim_X6_isBetween rfl rfl rfl (by decide +kernel) ⟨(Nat.le_of_ble_eq_true rfl), (Nat.le_of_ble_eq_true rfl)⟩) rfl hK hP hS hA (Nat.le_of_ble_eq_true rfl) dX6_victim_3 ⟨(Nat.le_of_ble_eq_true rfl), (Nat.le_of_ble_eq_true rfl)⟩ rfl (fun H locs hP hS => ?_)
  obtain ⟨o6, hc6, h⟩ := az_bnd h
  refine az_callST (As := [.int o3]) (rest := []) ⟨hx, hb, hml, hown, hts⟩ hl.1 (kX6_checkArgument l hst g sa o3 o6 hc6) (va_cwS 1 hts gX6_victim_X6_checkArgument rfl rfl rfl (by decide +kernel) ⟨(Nat.le_of_ble_eq_true rfl), (Nat.le_of_ble_eq_true rfl)⟩) rfl hK hcx hP hS hA (Nat.le_of_ble_eq_true rfl) dX6_victim_6 ⟨(Nat.le_of_ble_eq_true rfl), (Nat.le_of_ble_eq_true rfl)⟩ rfl (fun n6 ce q9 H locs hP hS hce hcv hcl => ?_) (fun c6 H locs hP hS => ?_)
  · replace h := az_neg n6 h
    have hP : va_P g.1 az_cl (az_w6 g ax an au V Y) _ := hP
    have hD : va_D A (az_w6 g ax an au V Y) := hD
    rw [← Option.some.inj h]
    exact az_outT n6 hex hlocks hce hcv hcl hK hP hD hS (Nat.le_of_ble_eq_true rfl) (Nat.le_of_ble_eq_true rfl)
  replace h := az_pos c6 h
  refine lv_aload_n hx hb dX6_victim_9 rfl (lv_at hl 0 rfl) ?_
  refine va_get (D := g.1) (ci := 6) (v := .ref (an 0)) (C := RX6) (T := TX6) (N := 3) hx hb hts inX6_victim_RX6 hown hK hP 0 rfl rfl 0 (Nat.le_of_ble_eq_true rfl) (hts _ (List.mem_of_getElem? (i := 1) rfl)) (fun _ h9 => h9) rfl dX6_victim_10 ?_
  refine lv_iload_n hx hb dX6_victim_13 rfl (lv_at hl 1 rfl) ?_
  obtain ⟨o14, hc14, h⟩ := az_bnd h
  refine az_callPi (w2 := az_w6 g ax an au V Y) (As := [.int x1]) (rest := []) ⟨hx, hb, hml, hown, hts⟩ hl.1 (kX5_chooseVictim l g an V x1 o14 hc14) (cwV 1 hts gX6_victim_X5_chooseVictim rfl rfl rfl (by decide +kernel) ⟨(Nat.le_of_ble_eq_true rfl), (Nat.le_of_ble_eq_true rfl)⟩) rfl hK hP hD hS hA (az_pm (az_x ax an au :: (az_cV g an V).take 0) (az_cV g an V) ((az_cV g an V).drop 20 ++ Y)) (az_pm (az_x ax an au :: (az_cV g an V).take 0) (az_cV g an V) ((az_cV g an V).drop 20 ++ Y)).symm 0 rfl rfl rfl (Nat.le_of_ble_eq_true rfl) dX6_victim_14 ⟨(Nat.le_of_ble_eq_true rfl), (Nat.le_of_ble_eq_true rfl)⟩ rfl (fun H locs hP hD hS => ?_)
  have hP : va_P g.1 az_cl (az_w6 g ax an au V Y) _ := hP
  have hD : va_D A (az_w6 g ax an au V Y) := hD
  refine lv_istore_n (lv' := [(2, .int o14), (0, .ref (ax 0)), (1, .int x1)]) hx hb dX6_victim_17 rfl hl (by decide) rfl (fun ls hl => ?_)
  refine lv_iload_n hx hb dX6_victim_18 rfl (lv_at hl 0 rfl) ?_
  refine lv_iconst (v := (-1 : Int32)) hx hb dX6_victim_19 (by decide) ?_
  refine lv_icmp_eq (tgt := 27) hx hb dX6_victim_20 (by decide) (fun c20 => ?_) (fun c20 => ?_)
  · replace h := az_pos c20 h
    refine lv_iconst (v := (0 : Int32)) hx hb dX6_victim_27 (by decide) ?_
    obtain ⟨o28, hc28, h⟩ := az_bnd h
    refine az_callST (As := [.int (0 : Int32)]) (rest := []) ⟨hx, hb, hml, hown, hts⟩ hl.1 (kX6_checkElement l hst g sa (0 : Int32) o28 hc28) (va_cwS 1 hts gX6_victim_X6_checkElement rfl rfl rfl (by decide +kernel) ⟨(Nat.le_of_ble_eq_true rfl), (Nat.le_of_ble_eq_true rfl)⟩) rfl hK hcx hP hS hA (Nat.le_of_ble_eq_true rfl) dX6_victim_28 ⟨(Nat.le_of_ble_eq_true rfl), (Nat.le_of_ble_eq_true rfl)⟩ rfl (fun n28 ce q9 H locs hP hS hce hcv hcl => ?_) (fun c28 H locs hP hS => ?_)
    · replace h := az_neg n28 h
      have hP : va_P g.1 az_cl (az_w6 g ax an au V Y) _ := hP
      have hD : va_D A (az_w6 g ax an au V Y) := hD
      rw [← Option.some.inj h]
      exact az_outT n28 hex hlocks hce hcv hcl hK hP hD hS (Nat.le_of_ble_eq_true rfl) (Nat.le_of_ble_eq_true rfl)
    replace h := az_pos c28 h
    refine lv_iload_n hx hb dX6_victim_31 rfl (lv_at hl 0 rfl) ?_
    have hP : va_P g.1 az_cl (az_w6 g ax an au V Y) _ := hP
    have hD : va_D A (az_w6 g ax an au V Y) := hD
    rw [← Option.some.inj h]
    exact az_iretT hx hb hr hlocks hK hP hD hS dX6_victim_32 (Nat.le_of_ble_eq_true rfl) (Nat.le_of_ble_eq_true rfl)
  · replace h := az_neg c20 h
    refine lv_iconst (v := (1 : Int32)) hx hb dX6_victim_23 (by decide) ?_
    refine lv_goto (tgt := 28) hx hb dX6_victim_24 (by decide) ?_
    obtain ⟨o28, hc28, h⟩ := az_bnd h
    refine az_callST (As := [.int (1 : Int32)]) (rest := []) ⟨hx, hb, hml, hown, hts⟩ hl.1 (kX6_checkElement l hst g sa (1 : Int32) o28 hc28) (va_cwS 1 hts gX6_victim_X6_checkElement rfl rfl rfl (by decide +kernel) ⟨(Nat.le_of_ble_eq_true rfl), (Nat.le_of_ble_eq_true rfl)⟩) rfl hK hcx hP hS hA (Nat.le_of_ble_eq_true rfl) dX6_victim_28 ⟨(Nat.le_of_ble_eq_true rfl), (Nat.le_of_ble_eq_true rfl)⟩ rfl (fun n28 ce q9 H locs hP hS hce hcv hcl => ?_) (fun c28 H locs hP hS => ?_)
    · replace h := az_neg n28 h
      have hP : va_P g.1 az_cl (az_w6 g ax an au V Y) _ := hP
      have hD : va_D A (az_w6 g ax an au V Y) := hD
      rw [← Option.some.inj h]
      exact az_outT n28 hex hlocks hce hcv hcl hK hP hD hS (Nat.le_of_ble_eq_true rfl) (Nat.le_of_ble_eq_true rfl)
    replace h := az_pos c28 h
    refine lv_iload_n hx hb dX6_victim_31 rfl (lv_at hl 0 rfl) ?_
    have hP : va_P g.1 az_cl (az_w6 g ax an au V Y) _ := hP
    have hD : va_D A (az_w6 g ax an au V Y) := hD
    rw [← Option.some.inj h]
    exact az_iretT hx hb hr hlocks hK hP hD hS dX6_victim_32 (Nat.le_of_ble_eq_true rfl) (Nat.le_of_ble_eq_true rfl)

def FX6_relocationsFor (V : az_St) (T : az_St) (S : Nat → az_St) (hs : Nat → Int32) (x1 : Int32) (x2 : Int32) : Option (Nat × Int32 × (Nat → Int32) × (Nat → Int32) × (Nat → Int32) × (Nat → Int32) × (Nat → Int32) × (Nat → Int32) × (Nat → Int32) × (Nat → Int32) × (Nat → Int32) × (Nat → Int32) × (Nat → Int32) × (Nat → Int32) × (Nat → Int32) × (Nat → Int32) × (Nat → Int32) × (Nat → Int32) × (Nat → Int32)) := (FX6_isBetween x1 (0 : Int32) (2 : Int32)).bind (fun o3 => (FX6_checkArgument o3).bind (fun o6 => if o6 = 0 then ((FX6_isBetween x2 (1 : Int32) (120 : Int32)).bind (fun o13 => (FX6_checkArgument o13).bind (fun o16 => if o16 = 0 then ((FX5_copyFrom T V).bind (fun o27 => (FX5_relocateUntilRoom (va_up (va_up (va_up (va_up (va_up (va_up (va_up (va_up (va_up (va_up (va_up (va_up (va_up (va_up (va_up (va_up (va_up T 0 o27.1) 1 o27.2.1) 2 o27.2.2.1) 3 o27.2.2.2.1) 4 o27.2.2.2.2.1) 5 o27.2.2.2.2.2.1) 6 o27.2.2.2.2.2.2.1) 7 o27.2.2.2.2.2.2.2.1) 8 o27.2.2.2.2.2.2.2.2.1) 9 o27.2.2.2.2.2.2.2.2.2.1) 10 o27.2.2.2.2.2.2.2.2.2.2.1) 11 o27.2.2.2.2.2.2.2.2.2.2.2.1) 12 o27.2.2.2.2.2.2.2.2.2.2.2.2.1) 13 o27.2.2.2.2.2.2.2.2.2.2.2.2.2.1) 14 o27.2.2.2.2.2.2.2.2.2.2.2.2.2.2.1) 15 o27.2.2.2.2.2.2.2.2.2.2.2.2.2.2.2.1) 16 o27.2.2.2.2.2.2.2.2.2.2.2.2.2.2.2.2) x1 x2).bind (fun o36 => if o36.1 = (-1 : Int32) then ((FX6_checkElement (0 : Int32)).bind (fun o50 => if o50 = 0 then (some (0, o36.1, o36.2.1, o36.2.2.1, o36.2.2.2.1, o36.2.2.2.2.1, o27.2.2.2.2.1, o36.2.2.2.2.2.1, o36.2.2.2.2.2.2.1, o36.2.2.2.2.2.2.2.1, o36.2.2.2.2.2.2.2.2.1, o36.2.2.2.2.2.2.2.2.2.1, o36.2.2.2.2.2.2.2.2.2.2.1, o27.2.2.2.2.2.2.2.2.2.2.2.1, o27.2.2.2.2.2.2.2.2.2.2.2.2.1, o27.2.2.2.2.2.2.2.2.2.2.2.2.2.1, o36.2.2.2.2.2.2.2.2.2.2.2.1, o36.2.2.2.2.2.2.2.2.2.2.2.2.1, o36.2.2.2.2.2.2.2.2.2.2.2.2.2)) else some (o50, (0 : Int32), o36.2.1, o36.2.2.1, o36.2.2.2.1, o36.2.2.2.2.1, o27.2.2.2.2.1, o36.2.2.2.2.2.1, o36.2.2.2.2.2.2.1, o36.2.2.2.2.2.2.2.1, o36.2.2.2.2.2.2.2.2.1, o36.2.2.2.2.2.2.2.2.2.1, o36.2.2.2.2.2.2.2.2.2.2.1, o27.2.2.2.2.2.2.2.2.2.2.2.1, o27.2.2.2.2.2.2.2.2.2.2.2.2.1, o27.2.2.2.2.2.2.2.2.2.2.2.2.2.1, o36.2.2.2.2.2.2.2.2.2.2.2.1, o36.2.2.2.2.2.2.2.2.2.2.2.2.1, o36.2.2.2.2.2.2.2.2.2.2.2.2.2))) else ((FX6_checkElement (1 : Int32)).bind (fun o50 => if o50 = 0 then (some (0, o36.1, o36.2.1, o36.2.2.1, o36.2.2.2.1, o36.2.2.2.2.1, o27.2.2.2.2.1, o36.2.2.2.2.2.1, o36.2.2.2.2.2.2.1, o36.2.2.2.2.2.2.2.1, o36.2.2.2.2.2.2.2.2.1, o36.2.2.2.2.2.2.2.2.2.1, o36.2.2.2.2.2.2.2.2.2.2.1, o27.2.2.2.2.2.2.2.2.2.2.2.1, o27.2.2.2.2.2.2.2.2.2.2.2.2.1, o27.2.2.2.2.2.2.2.2.2.2.2.2.2.1, o36.2.2.2.2.2.2.2.2.2.2.2.1, o36.2.2.2.2.2.2.2.2.2.2.2.2.1, o36.2.2.2.2.2.2.2.2.2.2.2.2.2)) else some (o50, (0 : Int32), o36.2.1, o36.2.2.1, o36.2.2.2.1, o36.2.2.2.2.1, o27.2.2.2.2.1, o36.2.2.2.2.2.1, o36.2.2.2.2.2.2.1, o36.2.2.2.2.2.2.2.1, o36.2.2.2.2.2.2.2.2.1, o36.2.2.2.2.2.2.2.2.2.1, o36.2.2.2.2.2.2.2.2.2.2.1, o27.2.2.2.2.2.2.2.2.2.2.2.1, o27.2.2.2.2.2.2.2.2.2.2.2.2.1, o27.2.2.2.2.2.2.2.2.2.2.2.2.2.1, o36.2.2.2.2.2.2.2.2.2.2.2.1, o36.2.2.2.2.2.2.2.2.2.2.2.2.1, o36.2.2.2.2.2.2.2.2.2.2.2.2.2)))))) else some (o16, (0 : Int32), (T 0), (T 1), (T 2), (T 3), (T 4), (T 5), (T 6), (T 7), (T 8), (T 9), (T 10), (T 11), (T 12), (T 13), (T 14), (T 15), (T 16))))) else some (o6, (0 : Int32), (T 0), (T 1), (T 2), (T 3), (T 4), (T 5), (T 6), (T 7), (T 8), (T 9), (T 10), (T 11), (T 12), (T 13), (T 14), (T 15), (T 16))))
theorem inX6_relocationsFor_RX6 : ∀ w ∈ wsX60, w ∈ wsX6_relocationsFor := az_inr [194, 195, 196] (by decide +kernel)
set_option maxHeartbeats 4000000 in
set_option maxRecDepth 100000 in
theorem kX6_relocationsFor (l : Launch) (hst : l.stackTraces = false) (g : az_G) (sa : Nat → Nat) (ax : Nat → Nat) (an : Nat → Nat) (au : Nat → Nat) (aw : Nat → Nat → Nat) (V : az_St) (T : az_St) (S : Nat → az_St) (hs : Nat → Int32) (x1 : Int32) (x2 : Int32) (o : Nat × Int32 × (Nat → Int32) × (Nat → Int32) × (Nat → Int32) × (Nat → Int32) × (Nat → Int32) × (Nat → Int32) × (Nat → Int32) × (Nat → Int32) × (Nat → Int32) × (Nat → Int32) × (Nat → Int32) × (Nat → Int32) × (Nat → Int32) × (Nat → Int32) × (Nat → Int32) × (Nat → Int32) × (Nat → Int32)) (h : FX6_relocationsFor V T S hs x1 x2 = some o) : az_TI l yX6_relocationsFor wsX6_relocationsFor ({ frames := 7, cells := 3, slots := 18, locals := 161 } : Room) [.ref (ax 0), .int x1, .int x2] g sa (az_w6 g ax an au V (az_cV g au T ++ az_cH g ax aw S hs)) o.1 o.2.1 (az_w6 g ax an au V (az_cV g au (va_up (va_up (va_up (va_up (va_up (va_up (va_up (va_up (va_up (va_up (va_up (va_up (va_up (va_up (va_up (va_up (va_up T 0 o.2.2.1) 1 o.2.2.2.1) 2 o.2.2.2.2.1) 3 o.2.2.2.2.2.1) 4 o.2.2.2.2.2.2.1) 5 o.2.2.2.2.2.2.2.1) 6 o.2.2.2.2.2.2.2.2.1) 7 o.2.2.2.2.2.2.2.2.2.1) 8 o.2.2.2.2.2.2.2.2.2.2.1) 9 o.2.2.2.2.2.2.2.2.2.2.2.1) 10 o.2.2.2.2.2.2.2.2.2.2.2.2.1) 11 o.2.2.2.2.2.2.2.2.2.2.2.2.2.1) 12 o.2.2.2.2.2.2.2.2.2.2.2.2.2.2.1) 13 o.2.2.2.2.2.2.2.2.2.2.2.2.2.2.2.1) 14 o.2.2.2.2.2.2.2.2.2.2.2.2.2.2.2.2.1) 15 o.2.2.2.2.2.2.2.2.2.2.2.2.2.2.2.2.2.1) 16 o.2.2.2.2.2.2.2.2.2.2.2.2.2.2.2.2.2.2) ++ az_cH g ax aw S hs)) 3 := by
  refine az_bodyT (cc := cX6_relocationsFor) (maxL := 4) (ret := (some .int)) (mc := 3) (ms := 18) (Qc := fun A => az_QTI g (az_w6 g ax an au V (az_cV g au (va_up (va_up (va_up (va_up (va_up (va_up (va_up (va_up (va_up (va_up (va_up (va_up (va_up (va_up (va_up (va_up (va_up T 0 o.2.2.1) 1 o.2.2.2.1) 2 o.2.2.2.2.1) 3 o.2.2.2.2.2.1) 4 o.2.2.2.2.2.2.1) 5 o.2.2.2.2.2.2.2.1) 6 o.2.2.2.2.2.2.2.2.1) 7 o.2.2.2.2.2.2.2.2.2.1) 8 o.2.2.2.2.2.2.2.2.2.2.1) 9 o.2.2.2.2.2.2.2.2.2.2.2.1) 10 o.2.2.2.2.2.2.2.2.2.2.2.2.1) 11 o.2.2.2.2.2.2.2.2.2.2.2.2.2.1) 12 o.2.2.2.2.2.2.2.2.2.2.2.2.2.2.1) 13 o.2.2.2.2.2.2.2.2.2.2.2.2.2.2.2.1) 14 o.2.2.2.2.2.2.2.2.2.2.2.2.2.2.2.2.1) 15 o.2.2.2.2.2.2.2.2.2.2.2.2.2.2.2.2.2.1) 16 o.2.2.2.2.2.2.2.2.2.2.2.2.2.2.2.2.2.2) ++ az_cH g ax aw S hs)) o.1 o.2.1 A) (XC := fun A => az_XT g (az_w6 g ax an au V (az_cV g au (va_up (va_up (va_up (va_up (va_up (va_up (va_up (va_up (va_up (va_up (va_up (va_up (va_up (va_up (va_up (va_up (va_up T 0 o.2.2.1) 1 o.2.2.2.1) 2 o.2.2.2.2.1) 3 o.2.2.2.2.2.1) 4 o.2.2.2.2.2.2.1) 5 o.2.2.2.2.2.2.2.1) 6 o.2.2.2.2.2.2.2.2.1) 7 o.2.2.2.2.2.2.2.2.2.1) 8 o.2.2.2.2.2.2.2.2.2.2.1) 9 o.2.2.2.2.2.2.2.2.2.2.2.1) 10 o.2.2.2.2.2.2.2.2.2.2.2.2.1) 11 o.2.2.2.2.2.2.2.2.2.2.2.2.2.1) 12 o.2.2.2.2.2.2.2.2.2.2.2.2.2.2.1) 13 o.2.2.2.2.2.2.2.2.2.2.2.2.2.2.2.1) 14 o.2.2.2.2.2.2.2.2.2.2.2.2.2.2.2.2.1) 15 o.2.2.2.2.2.2.2.2.2.2.2.2.2.2.2.2.2.1) 16 o.2.2.2.2.2.2.2.2.2.2.2.2.2.2.2.2.2.2) ++ az_cH g ax aw S hs)) o.1 A) (by decide +kernel) rfl (Nat.le_of_ble_eq_true rfl) ?_
  intro p e s m args below meth c A hx hb hr hts hown hml hlocks hex hcx hA hK hP hD hS ls hl
  have hl : lv_has ls 4 [(0, .ref (ax 0)), (1, .int x1), (2, .int x2)] := hl
  unfold FX6_relocationsFor at h
  refine lv_iload_n hx hb dX6_relocationsFor_0 rfl (lv_at hl 1 rfl) ?_
  refine lv_iconst (v := (0 : Int32)) hx hb dX6_relocationsFor_1 (by decide) ?_
  refine lv_iconst (v := (2 : Int32)) hx hb dX6_relocationsFor_2 (by decide) ?_
  obtain ⟨o3, hc3, h⟩ := az_bnd h
  refine az_callS0 (As := [.int x1, .int (0 : Int32), .int (2 : Int32)]) (rest := []) ⟨hx, hb, hml, hown, hts⟩ hl.1 (kX6_isBetween l g x1 (0 : Int32) (2 : Int32) o3 hc3) (va_cwS 3 hts gX6_relocationsFor_X6_isBetween rfl rfl rfl (by decide +kernel) ⟨(Nat.le_of_ble_eq_true rfl), (Nat.le_of_ble_eq_true rfl)⟩) rfl hK hP hS hA (Nat.le_of_ble_eq_true rfl) dX6_relocationsFor_3 ⟨(Nat.le_of_ble_eq_true rfl), (Nat.le_of_ble_eq_true rfl)⟩ rfl (fun H locs hP hS => ?_)
  obtain ⟨o6, hc6, h⟩ := az_bnd h
  refine az_callST (As := [.int o3]) (rest := []) ⟨hx, hb, hml, hown, hts⟩ hl.1 (kX6_checkArgument l hst g sa o3 o6 hc6) (va_cwS 1 hts gX6_relocationsFor_X6_checkArgument rfl rfl rfl (by decide +kernel) ⟨(Nat.le_of_ble_eq_true rfl), (Nat.le_of_ble_eq_true rfl)⟩) rfl hK hcx hP hS hA (Nat.le_of_ble_eq_true rfl) dX6_relocationsFor_6 ⟨(Nat.le_of_ble_eq_true rfl), (Nat.le_of_ble_eq_true rfl)⟩ rfl (fun n6 ce q9 H locs hP hS hce hcv hcl => ?_) (fun c6 H locs hP hS => ?_)
  · replace h := az_neg n6 h
    have hP : va_P g.1 az_cl (az_w6 g ax an au V (az_cV g au (va_up (va_up (va_up (va_up (va_up (va_up (va_up (va_up (va_up (va_up (va_up (va_up (va_up (va_up (va_up (va_up (va_up T 0 (T 0)) 1 (T 1)) 2 (T 2)) 3 (T 3)) 4 (T 4)) 5 (T 5)) 6 (T 6)) 7 (T 7)) 8 (T 8)) 9 (T 9)) 10 (T 10)) 11 (T 11)) 12 (T 12)) 13 (T 13)) 14 (T 14)) 15 (T 15)) 16 (T 16)) ++ az_cH g ax aw S hs)) _ := hP
    have hD : va_D A (az_w6 g ax an au V (az_cV g au (va_up (va_up (va_up (va_up (va_up (va_up (va_up (va_up (va_up (va_up (va_up (va_up (va_up (va_up (va_up (va_up (va_up T 0 (T 0)) 1 (T 1)) 2 (T 2)) 3 (T 3)) 4 (T 4)) 5 (T 5)) 6 (T 6)) 7 (T 7)) 8 (T 8)) 9 (T 9)) 10 (T 10)) 11 (T 11)) 12 (T 12)) 13 (T 13)) 14 (T 14)) 15 (T 15)) 16 (T 16)) ++ az_cH g ax aw S hs)) := hD
    rw [← Option.some.inj h]
    exact az_outT n6 hex hlocks hce hcv hcl hK hP hD hS (Nat.le_of_ble_eq_true rfl) (Nat.le_of_ble_eq_true rfl)
  replace h := az_pos c6 h
  refine lv_iload_n hx hb dX6_relocationsFor_9 rfl (lv_at hl 2 rfl) ?_
  refine lv_iconst (v := (1 : Int32)) hx hb dX6_relocationsFor_10 (by decide) ?_
  refine lv_bipush (v := (120 : Int32)) hx hb dX6_relocationsFor_11 (by decide) ?_
  obtain ⟨o13, hc13, h⟩ := az_bnd h
  refine az_callS0 (As := [.int x2, .int (1 : Int32), .int (120 : Int32)]) (rest := []) ⟨hx, hb, hml, hown, hts⟩ hl.1 (kX6_isBetween l g x2 (1 : Int32) (120 : Int32) o13 hc13) (va_cwS 3 hts gX6_relocationsFor_X6_isBetween rfl rfl rfl (by decide +kernel) ⟨(Nat.le_of_ble_eq_true rfl), (Nat.le_of_ble_eq_true rfl)⟩) rfl hK hP hS hA (Nat.le_of_ble_eq_true rfl) dX6_relocationsFor_13 ⟨(Nat.le_of_ble_eq_true rfl), (Nat.le_of_ble_eq_true rfl)⟩ rfl (fun H locs hP hS => ?_)
  obtain ⟨o16, hc16, h⟩ := az_bnd h
  refine az_callST (As := [.int o13]) (rest := []) ⟨hx, hb, hml, hown, hts⟩ hl.1 (kX6_checkArgument l hst g sa o13 o16 hc16) (va_cwS 1 hts gX6_relocationsFor_X6_checkArgument rfl rfl rfl (by decide +kernel) ⟨(Nat.le_of_ble_eq_true rfl), (Nat.le_of_ble_eq_true rfl)⟩) rfl hK hcx hP hS hA (Nat.le_of_ble_eq_true rfl) dX6_relocationsFor_16 ⟨(Nat.le_of_ble_eq_true rfl), (Nat.le_of_ble_eq_true rfl)⟩ rfl (fun n16 ce q9 H locs hP hS hce hcv hcl => ?_) (fun c16 H locs hP hS => ?_)
  · replace h := az_neg n16 h
    have hP : va_P g.1 az_cl (az_w6 g ax an au V (az_cV g au (va_up (va_up (va_up (va_up (va_up (va_up (va_up (va_up (va_up (va_up (va_up (va_up (va_up (va_up (va_up (va_up (va_up T 0 (T 0)) 1 (T 1)) 2 (T 2)) 3 (T 3)) 4 (T 4)) 5 (T 5)) 6 (T 6)) 7 (T 7)) 8 (T 8)) 9 (T 9)) 10 (T 10)) 11 (T 11)) 12 (T 12)) 13 (T 13)) 14 (T 14)) 15 (T 15)) 16 (T 16)) ++ az_cH g ax aw S hs)) _ := hP
    have hD : va_D A (az_w6 g ax an au V (az_cV g au (va_up (va_up (va_up (va_up (va_up (va_up (va_up (va_up (va_up (va_up (va_up (va_up (va_up (va_up (va_up (va_up (va_up T 0 (T 0)) 1 (T 1)) 2 (T 2)) 3 (T 3)) 4 (T 4)) 5 (T 5)) 6 (T 6)) 7 (T 7)) 8 (T 8)) 9 (T 9)) 10 (T 10)) 11 (T 11)) 12 (T 12)) 13 (T 13)) 14 (T 14)) 15 (T 15)) 16 (T 16)) ++ az_cH g ax aw S hs)) := hD
    rw [← Option.some.inj h]
    exact az_outT n16 hex hlocks hce hcv hcl hK hP hD hS (Nat.le_of_ble_eq_true rfl) (Nat.le_of_ble_eq_true rfl)
  replace h := az_pos c16 h
  refine lv_aload_n hx hb dX6_relocationsFor_19 rfl (lv_at hl 0 rfl) ?_
  refine va_get (D := g.1) (ci := 6) (v := .ref (au 0)) (C := RX6) (T := TX6) (N := 3) hx hb hts inX6_relocationsFor_RX6 hown hK hP 0 rfl rfl 1 (Nat.le_of_ble_eq_true rfl) (hts _ (List.mem_of_getElem? (i := 1) rfl)) (fun _ h9 => h9) rfl dX6_relocationsFor_20 ?_
  refine lv_aload_n hx hb dX6_relocationsFor_23 rfl (lv_at hl 0 rfl) ?_
  refine va_get (D := g.1) (ci := 6) (v := .ref (an 0)) (C := RX6) (T := TX6) (N := 3) hx hb hts inX6_relocationsFor_RX6 hown hK hP 0 rfl rfl 0 (Nat.le_of_ble_eq_true rfl) (hts _ (List.mem_of_getElem? (i := 2) rfl)) (fun _ h9 => h9) rfl dX6_relocationsFor_24 ?_
  obtain ⟨o27, hc27, h⟩ := az_bnd h
  refine az_callPv (w2 := az_w6 g ax an au V (az_cV g au (va_up (va_up (va_up (va_up (va_up (va_up (va_up (va_up (va_up (va_up (va_up (va_up (va_up (va_up (va_up (va_up (va_up T 0 o27.1) 1 o27.2.1) 2 o27.2.2.1) 3 o27.2.2.2.1) 4 o27.2.2.2.2.1) 5 o27.2.2.2.2.2.1) 6 o27.2.2.2.2.2.2.1) 7 o27.2.2.2.2.2.2.2.1) 8 o27.2.2.2.2.2.2.2.2.1) 9 o27.2.2.2.2.2.2.2.2.2.1) 10 o27.2.2.2.2.2.2.2.2.2.2.1) 11 o27.2.2.2.2.2.2.2.2.2.2.2.1) 12 o27.2.2.2.2.2.2.2.2.2.2.2.2.1) 13 o27.2.2.2.2.2.2.2.2.2.2.2.2.2.1) 14 o27.2.2.2.2.2.2.2.2.2.2.2.2.2.2.1) 15 o27.2.2.2.2.2.2.2.2.2.2.2.2.2.2.2.1) 16 o27.2.2.2.2.2.2.2.2.2.2.2.2.2.2.2.2) ++ az_cH g ax aw S hs)) (As := [.ref (an 0)]) (rest := []) ⟨hx, hb, hml, hown, hts⟩ hl.1 (kX5_copyFrom l g au an T V o27 hc27) (cwV 1 hts gX6_relocationsFor_X5_copyFrom rfl rfl rfl (by decide +kernel) ⟨(Nat.le_of_ble_eq_true rfl), (Nat.le_of_ble_eq_true rfl)⟩) rfl hK hP hD hS hA (az_pT (az_x ax an au) (az_cV g an V) (az_cV g au T) (az_cH g ax aw S hs)) (az_pT (az_x ax an au) (az_cV g an V) (az_cV g au (va_up (va_up (va_up (va_up (va_up (va_up (va_up (va_up (va_up (va_up (va_up (va_up (va_up (va_up (va_up (va_up (va_up T 0 o27.1) 1 o27.2.1) 2 o27.2.2.1) 3 o27.2.2.2.1) 4 o27.2.2.2.2.1) 5 o27.2.2.2.2.2.1) 6 o27.2.2.2.2.2.2.1) 7 o27.2.2.2.2.2.2.2.1) 8 o27.2.2.2.2.2.2.2.2.1) 9 o27.2.2.2.2.2.2.2.2.2.1) 10 o27.2.2.2.2.2.2.2.2.2.2.1) 11 o27.2.2.2.2.2.2.2.2.2.2.2.1) 12 o27.2.2.2.2.2.2.2.2.2.2.2.2.1) 13 o27.2.2.2.2.2.2.2.2.2.2.2.2.2.1) 14 o27.2.2.2.2.2.2.2.2.2.2.2.2.2.2.1) 15 o27.2.2.2.2.2.2.2.2.2.2.2.2.2.2.2.1) 16 o27.2.2.2.2.2.2.2.2.2.2.2.2.2.2.2.2)) (az_cH g ax aw S hs)).symm 0 rfl rfl rfl (Nat.le_of_ble_eq_true rfl) dX6_relocationsFor_27 ⟨(Nat.le_of_ble_eq_true rfl), (Nat.le_of_ble_eq_true rfl)⟩ rfl (fun H locs hP hD hS => ?_)
  have hP : va_P g.1 az_cl (az_w6 g ax an au V (az_cV g au (va_up (va_up (va_up (va_up (va_up (va_up (va_up (va_up (va_up (va_up (va_up (va_up (va_up (va_up (va_up (va_up (va_up T 0 o27.1) 1 o27.2.1) 2 o27.2.2.1) 3 o27.2.2.2.1) 4 o27.2.2.2.2.1) 5 o27.2.2.2.2.2.1) 6 o27.2.2.2.2.2.2.1) 7 o27.2.2.2.2.2.2.2.1) 8 o27.2.2.2.2.2.2.2.2.1) 9 o27.2.2.2.2.2.2.2.2.2.1) 10 o27.2.2.2.2.2.2.2.2.2.2.1) 11 o27.2.2.2.2.2.2.2.2.2.2.2.1) 12 o27.2.2.2.2.2.2.2.2.2.2.2.2.1) 13 o27.2.2.2.2.2.2.2.2.2.2.2.2.2.1) 14 o27.2.2.2.2.2.2.2.2.2.2.2.2.2.2.1) 15 o27.2.2.2.2.2.2.2.2.2.2.2.2.2.2.2.1) 16 o27.2.2.2.2.2.2.2.2.2.2.2.2.2.2.2.2) ++ az_cH g ax aw S hs)) _ := hP
  have hD : va_D A (az_w6 g ax an au V (az_cV g au (va_up (va_up (va_up (va_up (va_up (va_up (va_up (va_up (va_up (va_up (va_up (va_up (va_up (va_up (va_up (va_up (va_up T 0 o27.1) 1 o27.2.1) 2 o27.2.2.1) 3 o27.2.2.2.1) 4 o27.2.2.2.2.1) 5 o27.2.2.2.2.2.1) 6 o27.2.2.2.2.2.2.1) 7 o27.2.2.2.2.2.2.2.1) 8 o27.2.2.2.2.2.2.2.2.1) 9 o27.2.2.2.2.2.2.2.2.2.1) 10 o27.2.2.2.2.2.2.2.2.2.2.1) 11 o27.2.2.2.2.2.2.2.2.2.2.2.1) 12 o27.2.2.2.2.2.2.2.2.2.2.2.2.1) 13 o27.2.2.2.2.2.2.2.2.2.2.2.2.2.1) 14 o27.2.2.2.2.2.2.2.2.2.2.2.2.2.2.1) 15 o27.2.2.2.2.2.2.2.2.2.2.2.2.2.2.2.1) 16 o27.2.2.2.2.2.2.2.2.2.2.2.2.2.2.2.2) ++ az_cH g ax aw S hs)) := hD
  refine lv_aload_n hx hb dX6_relocationsFor_30 rfl (lv_at hl 0 rfl) ?_
  refine va_get (D := g.1) (ci := 6) (v := .ref (au 0)) (C := RX6) (T := TX6) (N := 3) hx hb hts inX6_relocationsFor_RX6 hown hK hP 0 rfl rfl 1 (Nat.le_of_ble_eq_true rfl) (hts _ (List.mem_of_getElem? (i := 1) rfl)) (fun _ h9 => h9) rfl dX6_relocationsFor_31 ?_
  refine lv_iload_n hx hb dX6_relocationsFor_34 rfl (lv_at hl 1 rfl) ?_
  refine lv_iload_n hx hb dX6_relocationsFor_35 rfl (lv_at hl 2 rfl) ?_
  obtain ⟨o36, hc36, h⟩ := az_bnd h
  refine az_callPi (w2 := az_w6 g ax an au V (az_cV g au (va_up (va_up (va_up (va_up (va_up (va_up (va_up (va_up (va_up (va_up (va_up (va_up (va_up (va_up (va_up (va_up (va_up T 0 o36.2.1) 1 o36.2.2.1) 2 o36.2.2.2.1) 3 o36.2.2.2.2.1) 4 o27.2.2.2.2.1) 5 o36.2.2.2.2.2.1) 6 o36.2.2.2.2.2.2.1) 7 o36.2.2.2.2.2.2.2.1) 8 o36.2.2.2.2.2.2.2.2.1) 9 o36.2.2.2.2.2.2.2.2.2.1) 10 o36.2.2.2.2.2.2.2.2.2.2.1) 11 o27.2.2.2.2.2.2.2.2.2.2.2.1) 12 o27.2.2.2.2.2.2.2.2.2.2.2.2.1) 13 o27.2.2.2.2.2.2.2.2.2.2.2.2.2.1) 14 o36.2.2.2.2.2.2.2.2.2.2.2.1) 15 o36.2.2.2.2.2.2.2.2.2.2.2.2.1) 16 o36.2.2.2.2.2.2.2.2.2.2.2.2.2) ++ az_cH g ax aw S hs)) (As := [.int x1, .int x2]) (rest := []) ⟨hx, hb, hml, hown, hts⟩ hl.1 (kX5_relocateUntilRoom l g au (va_up (va_up (va_up (va_up (va_up (va_up (va_up (va_up (va_up (va_up (va_up (va_up (va_up (va_up (va_up (va_up (va_up T 0 o27.1) 1 o27.2.1) 2 o27.2.2.1) 3 o27.2.2.2.1) 4 o27.2.2.2.2.1) 5 o27.2.2.2.2.2.1) 6 o27.2.2.2.2.2.2.1) 7 o27.2.2.2.2.2.2.2.1) 8 o27.2.2.2.2.2.2.2.2.1) 9 o27.2.2.2.2.2.2.2.2.2.1) 10 o27.2.2.2.2.2.2.2.2.2.2.1) 11 o27.2.2.2.2.2.2.2.2.2.2.2.1) 12 o27.2.2.2.2.2.2.2.2.2.2.2.2.1) 13 o27.2.2.2.2.2.2.2.2.2.2.2.2.2.1) 14 o27.2.2.2.2.2.2.2.2.2.2.2.2.2.2.1) 15 o27.2.2.2.2.2.2.2.2.2.2.2.2.2.2.2.1) 16 o27.2.2.2.2.2.2.2.2.2.2.2.2.2.2.2.2) x1 x2 o36 hc36) (cwV 2 hts gX6_relocationsFor_X5_relocateUntilRoom rfl rfl rfl (by decide +kernel) ⟨(Nat.le_of_ble_eq_true rfl), (Nat.le_of_ble_eq_true rfl)⟩) rfl hK hP hD hS hA (az_pm ((az_x ax an au :: az_cV g an V) ++ (az_cV g au (va_up (va_up (va_up (va_up (va_up (va_up (va_up (va_up (va_up (va_up (va_up (va_up (va_up (va_up (va_up (va_up (va_up T 0 o27.1) 1 o27.2.1) 2 o27.2.2.1) 3 o27.2.2.2.1) 4 o27.2.2.2.2.1) 5 o27.2.2.2.2.2.1) 6 o27.2.2.2.2.2.2.1) 7 o27.2.2.2.2.2.2.2.1) 8 o27.2.2.2.2.2.2.2.2.1) 9 o27.2.2.2.2.2.2.2.2.2.1) 10 o27.2.2.2.2.2.2.2.2.2.2.1) 11 o27.2.2.2.2.2.2.2.2.2.2.2.1) 12 o27.2.2.2.2.2.2.2.2.2.2.2.2.1) 13 o27.2.2.2.2.2.2.2.2.2.2.2.2.2.1) 14 o27.2.2.2.2.2.2.2.2.2.2.2.2.2.2.1) 15 o27.2.2.2.2.2.2.2.2.2.2.2.2.2.2.2.1) 16 o27.2.2.2.2.2.2.2.2.2.2.2.2.2.2.2.2)).take 0) (az_cV g au (va_up (va_up (va_up (va_up (va_up (va_up (va_up (va_up (va_up (va_up (va_up (va_up (va_up (va_up (va_up (va_up (va_up T 0 o27.1) 1 o27.2.1) 2 o27.2.2.1) 3 o27.2.2.2.1) 4 o27.2.2.2.2.1) 5 o27.2.2.2.2.2.1) 6 o27.2.2.2.2.2.2.1) 7 o27.2.2.2.2.2.2.2.1) 8 o27.2.2.2.2.2.2.2.2.1) 9 o27.2.2.2.2.2.2.2.2.2.1) 10 o27.2.2.2.2.2.2.2.2.2.2.1) 11 o27.2.2.2.2.2.2.2.2.2.2.2.1) 12 o27.2.2.2.2.2.2.2.2.2.2.2.2.1) 13 o27.2.2.2.2.2.2.2.2.2.2.2.2.2.1) 14 o27.2.2.2.2.2.2.2.2.2.2.2.2.2.2.1) 15 o27.2.2.2.2.2.2.2.2.2.2.2.2.2.2.2.1) 16 o27.2.2.2.2.2.2.2.2.2.2.2.2.2.2.2.2)) ((az_cV g au (va_up (va_up (va_up (va_up (va_up (va_up (va_up (va_up (va_up (va_up (va_up (va_up (va_up (va_up (va_up (va_up (va_up T 0 o27.1) 1 o27.2.1) 2 o27.2.2.1) 3 o27.2.2.2.1) 4 o27.2.2.2.2.1) 5 o27.2.2.2.2.2.1) 6 o27.2.2.2.2.2.2.1) 7 o27.2.2.2.2.2.2.2.1) 8 o27.2.2.2.2.2.2.2.2.1) 9 o27.2.2.2.2.2.2.2.2.2.1) 10 o27.2.2.2.2.2.2.2.2.2.2.1) 11 o27.2.2.2.2.2.2.2.2.2.2.2.1) 12 o27.2.2.2.2.2.2.2.2.2.2.2.2.1) 13 o27.2.2.2.2.2.2.2.2.2.2.2.2.2.1) 14 o27.2.2.2.2.2.2.2.2.2.2.2.2.2.2.1) 15 o27.2.2.2.2.2.2.2.2.2.2.2.2.2.2.2.1) 16 o27.2.2.2.2.2.2.2.2.2.2.2.2.2.2.2.2)).drop 20 ++ az_cH g ax aw S hs)) (az_pm ((az_x ax an au :: az_cV g an V) ++ (az_cV g au (va_up (va_up (va_up (va_up (va_up (va_up (va_up (va_up (va_up (va_up (va_up (va_up (va_up (va_up (va_up (va_up (va_up T 0 o27.1) 1 o27.2.1) 2 o27.2.2.1) 3 o27.2.2.2.1) 4 o27.2.2.2.2.1) 5 o27.2.2.2.2.2.1) 6 o27.2.2.2.2.2.2.1) 7 o27.2.2.2.2.2.2.2.1) 8 o27.2.2.2.2.2.2.2.2.1) 9 o27.2.2.2.2.2.2.2.2.2.1) 10 o27.2.2.2.2.2.2.2.2.2.2.1) 11 o27.2.2.2.2.2.2.2.2.2.2.2.1) 12 o27.2.2.2.2.2.2.2.2.2.2.2.2.1) 13 o27.2.2.2.2.2.2.2.2.2.2.2.2.2.1) 14 o27.2.2.2.2.2.2.2.2.2.2.2.2.2.2.1) 15 o27.2.2.2.2.2.2.2.2.2.2.2.2.2.2.2.1) 16 o27.2.2.2.2.2.2.2.2.2.2.2.2.2.2.2.2)).take 0) (az_cV g au (va_up (va_up (va_up (va_up (va_up (va_up (va_up (va_up (va_up (va_up (va_up (va_up (va_up (va_up (va_up (va_up (va_up T 0 o36.2.1) 1 o36.2.2.1) 2 o36.2.2.2.1) 3 o36.2.2.2.2.1) 4 o27.2.2.2.2.1) 5 o36.2.2.2.2.2.1) 6 o36.2.2.2.2.2.2.1) 7 o36.2.2.2.2.2.2.2.1) 8 o36.2.2.2.2.2.2.2.2.1) 9 o36.2.2.2.2.2.2.2.2.2.1) 10 o36.2.2.2.2.2.2.2.2.2.2.1) 11 o27.2.2.2.2.2.2.2.2.2.2.2.1) 12 o27.2.2.2.2.2.2.2.2.2.2.2.2.1) 13 o27.2.2.2.2.2.2.2.2.2.2.2.2.2.1) 14 o36.2.2.2.2.2.2.2.2.2.2.2.1) 15 o36.2.2.2.2.2.2.2.2.2.2.2.2.1) 16 o36.2.2.2.2.2.2.2.2.2.2.2.2.2)) ((az_cV g au (va_up (va_up (va_up (va_up (va_up (va_up (va_up (va_up (va_up (va_up (va_up (va_up (va_up (va_up (va_up (va_up (va_up T 0 o27.1) 1 o27.2.1) 2 o27.2.2.1) 3 o27.2.2.2.1) 4 o27.2.2.2.2.1) 5 o27.2.2.2.2.2.1) 6 o27.2.2.2.2.2.2.1) 7 o27.2.2.2.2.2.2.2.1) 8 o27.2.2.2.2.2.2.2.2.1) 9 o27.2.2.2.2.2.2.2.2.2.1) 10 o27.2.2.2.2.2.2.2.2.2.2.1) 11 o27.2.2.2.2.2.2.2.2.2.2.2.1) 12 o27.2.2.2.2.2.2.2.2.2.2.2.2.1) 13 o27.2.2.2.2.2.2.2.2.2.2.2.2.2.1) 14 o27.2.2.2.2.2.2.2.2.2.2.2.2.2.2.1) 15 o27.2.2.2.2.2.2.2.2.2.2.2.2.2.2.2.1) 16 o27.2.2.2.2.2.2.2.2.2.2.2.2.2.2.2.2)).drop 20 ++ az_cH g ax aw S hs)).symm 0 rfl rfl rfl (Nat.le_of_ble_eq_true rfl) dX6_relocationsFor_36 ⟨(Nat.le_of_ble_eq_true rfl), (Nat.le_of_ble_eq_true rfl)⟩ rfl (fun H locs hP hD hS => ?_)
  have hP : va_P g.1 az_cl (az_w6 g ax an au V (az_cV g au (va_up (va_up (va_up (va_up (va_up (va_up (va_up (va_up (va_up (va_up (va_up (va_up (va_up (va_up (va_up (va_up (va_up T 0 o36.2.1) 1 o36.2.2.1) 2 o36.2.2.2.1) 3 o36.2.2.2.2.1) 4 o27.2.2.2.2.1) 5 o36.2.2.2.2.2.1) 6 o36.2.2.2.2.2.2.1) 7 o36.2.2.2.2.2.2.2.1) 8 o36.2.2.2.2.2.2.2.2.1) 9 o36.2.2.2.2.2.2.2.2.2.1) 10 o36.2.2.2.2.2.2.2.2.2.2.1) 11 o27.2.2.2.2.2.2.2.2.2.2.2.1) 12 o27.2.2.2.2.2.2.2.2.2.2.2.2.1) 13 o27.2.2.2.2.2.2.2.2.2.2.2.2.2.1) 14 o36.2.2.2.2.2.2.2.2.2.2.2.1) 15 o36.2.2.2.2.2.2.2.2.2.2.2.2.1) 16 o36.2.2.2.2.2.2.2.2.2.2.2.2.2) ++ az_cH g ax aw S hs)) _ := hP
  have hD : va_D A (az_w6 g ax an au V (az_cV g au (va_up (va_up (va_up (va_up (va_up (va_up (va_up (va_up (va_up (va_up (va_up (va_up (va_up (va_up (va_up (va_up (va_up T 0 o36.2.1) 1 o36.2.2.1) 2 o36.2.2.2.1) 3 o36.2.2.2.2.1) 4 o27.2.2.2.2.1) 5 o36.2.2.2.2.2.1) 6 o36.2.2.2.2.2.2.1) 7 o36.2.2.2.2.2.2.2.1) 8 o36.2.2.2.2.2.2.2.2.1) 9 o36.2.2.2.2.2.2.2.2.2.1) 10 o36.2.2.2.2.2.2.2.2.2.2.1) 11 o27.2.2.2.2.2.2.2.2.2.2.2.1) 12 o27.2.2.2.2.2.2.2.2.2.2.2.2.1) 13 o27.2.2.2.2.2.2.2.2.2.2.2.2.2.1) 14 o36.2.2.2.2.2.2.2.2.2.2.2.1) 15 o36.2.2.2.2.2.2.2.2.2.2.2.2.1) 16 o36.2.2.2.2.2.2.2.2.2.2.2.2.2) ++ az_cH g ax aw S hs)) := hD
  refine lv_istore_n (lv' := [(3, .int o36.1), (0, .ref (ax 0)), (1, .int x1), (2, .int x2)]) hx hb dX6_relocationsFor_39 rfl hl (by decide) rfl (fun ls hl => ?_)
  refine lv_iload_n hx hb dX6_relocationsFor_40 rfl (lv_at hl 0 rfl) ?_
  refine lv_iconst (v := (-1 : Int32)) hx hb dX6_relocationsFor_41 (by decide) ?_
  refine lv_icmp_eq (tgt := 49) hx hb dX6_relocationsFor_42 (by decide) (fun c42 => ?_) (fun c42 => ?_)
  · replace h := az_pos c42 h
    refine lv_iconst (v := (0 : Int32)) hx hb dX6_relocationsFor_49 (by decide) ?_
    obtain ⟨o50, hc50, h⟩ := az_bnd h
    refine az_callST (As := [.int (0 : Int32)]) (rest := []) ⟨hx, hb, hml, hown, hts⟩ hl.1 (kX6_checkElement l hst g sa (0 : Int32) o50 hc50) (va_cwS 1 hts gX6_relocationsFor_X6_checkElement rfl rfl rfl (by decide +kernel) ⟨(Nat.le_of_ble_eq_true rfl), (Nat.le_of_ble_eq_true rfl)⟩) rfl hK hcx hP hS hA (Nat.le_of_ble_eq_true rfl) dX6_relocationsFor_50 ⟨(Nat.le_of_ble_eq_true rfl), (Nat.le_of_ble_eq_true rfl)⟩ rfl (fun n50 ce q9 H locs hP hS hce hcv hcl => ?_) (fun c50 H locs hP hS => ?_)
    · replace h := az_neg n50 h
      have hP : va_P g.1 az_cl (az_w6 g ax an au V (az_cV g au (va_up (va_up (va_up (va_up (va_up (va_up (va_up (va_up (va_up (va_up (va_up (va_up (va_up (va_up (va_up (va_up (va_up T 0 o36.2.1) 1 o36.2.2.1) 2 o36.2.2.2.1) 3 o36.2.2.2.2.1) 4 o27.2.2.2.2.1) 5 o36.2.2.2.2.2.1) 6 o36.2.2.2.2.2.2.1) 7 o36.2.2.2.2.2.2.2.1) 8 o36.2.2.2.2.2.2.2.2.1) 9 o36.2.2.2.2.2.2.2.2.2.1) 10 o36.2.2.2.2.2.2.2.2.2.2.1) 11 o27.2.2.2.2.2.2.2.2.2.2.2.1) 12 o27.2.2.2.2.2.2.2.2.2.2.2.2.1) 13 o27.2.2.2.2.2.2.2.2.2.2.2.2.2.1) 14 o36.2.2.2.2.2.2.2.2.2.2.2.1) 15 o36.2.2.2.2.2.2.2.2.2.2.2.2.1) 16 o36.2.2.2.2.2.2.2.2.2.2.2.2.2) ++ az_cH g ax aw S hs)) _ := hP
      have hD : va_D A (az_w6 g ax an au V (az_cV g au (va_up (va_up (va_up (va_up (va_up (va_up (va_up (va_up (va_up (va_up (va_up (va_up (va_up (va_up (va_up (va_up (va_up T 0 o36.2.1) 1 o36.2.2.1) 2 o36.2.2.2.1) 3 o36.2.2.2.2.1) 4 o27.2.2.2.2.1) 5 o36.2.2.2.2.2.1) 6 o36.2.2.2.2.2.2.1) 7 o36.2.2.2.2.2.2.2.1) 8 o36.2.2.2.2.2.2.2.2.1) 9 o36.2.2.2.2.2.2.2.2.2.1) 10 o36.2.2.2.2.2.2.2.2.2.2.1) 11 o27.2.2.2.2.2.2.2.2.2.2.2.1) 12 o27.2.2.2.2.2.2.2.2.2.2.2.2.1) 13 o27.2.2.2.2.2.2.2.2.2.2.2.2.2.1) 14 o36.2.2.2.2.2.2.2.2.2.2.2.1) 15 o36.2.2.2.2.2.2.2.2.2.2.2.2.1) 16 o36.2.2.2.2.2.2.2.2.2.2.2.2.2) ++ az_cH g ax aw S hs)) := hD
      rw [← Option.some.inj h]
      exact az_outT n50 hex hlocks hce hcv hcl hK hP hD hS (Nat.le_of_ble_eq_true rfl) (Nat.le_of_ble_eq_true rfl)
    replace h := az_pos c50 h
    refine lv_iload_n hx hb dX6_relocationsFor_53 rfl (lv_at hl 0 rfl) ?_
    have hP : va_P g.1 az_cl (az_w6 g ax an au V (az_cV g au (va_up (va_up (va_up (va_up (va_up (va_up (va_up (va_up (va_up (va_up (va_up (va_up (va_up (va_up (va_up (va_up (va_up T 0 o36.2.1) 1 o36.2.2.1) 2 o36.2.2.2.1) 3 o36.2.2.2.2.1) 4 o27.2.2.2.2.1) 5 o36.2.2.2.2.2.1) 6 o36.2.2.2.2.2.2.1) 7 o36.2.2.2.2.2.2.2.1) 8 o36.2.2.2.2.2.2.2.2.1) 9 o36.2.2.2.2.2.2.2.2.2.1) 10 o36.2.2.2.2.2.2.2.2.2.2.1) 11 o27.2.2.2.2.2.2.2.2.2.2.2.1) 12 o27.2.2.2.2.2.2.2.2.2.2.2.2.1) 13 o27.2.2.2.2.2.2.2.2.2.2.2.2.2.1) 14 o36.2.2.2.2.2.2.2.2.2.2.2.1) 15 o36.2.2.2.2.2.2.2.2.2.2.2.2.1) 16 o36.2.2.2.2.2.2.2.2.2.2.2.2.2) ++ az_cH g ax aw S hs)) _ := hP
    have hD : va_D A (az_w6 g ax an au V (az_cV g au (va_up (va_up (va_up (va_up (va_up (va_up (va_up (va_up (va_up (va_up (va_up (va_up (va_up (va_up (va_up (va_up (va_up T 0 o36.2.1) 1 o36.2.2.1) 2 o36.2.2.2.1) 3 o36.2.2.2.2.1) 4 o27.2.2.2.2.1) 5 o36.2.2.2.2.2.1) 6 o36.2.2.2.2.2.2.1) 7 o36.2.2.2.2.2.2.2.1) 8 o36.2.2.2.2.2.2.2.2.1) 9 o36.2.2.2.2.2.2.2.2.2.1) 10 o36.2.2.2.2.2.2.2.2.2.2.1) 11 o27.2.2.2.2.2.2.2.2.2.2.2.1) 12 o27.2.2.2.2.2.2.2.2.2.2.2.2.1) 13 o27.2.2.2.2.2.2.2.2.2.2.2.2.2.1) 14 o36.2.2.2.2.2.2.2.2.2.2.2.1) 15 o36.2.2.2.2.2.2.2.2.2.2.2.2.1) 16 o36.2.2.2.2.2.2.2.2.2.2.2.2.2) ++ az_cH g ax aw S hs)) := hD
    rw [← Option.some.inj h]
    exact az_iretT hx hb hr hlocks hK hP hD hS dX6_relocationsFor_54 (Nat.le_of_ble_eq_true rfl) (Nat.le_of_ble_eq_true rfl)
  · replace h := az_neg c42 h
    refine lv_iconst (v := (1 : Int32)) hx hb dX6_relocationsFor_45 (by decide) ?_
    refine lv_goto (tgt := 50) hx hb dX6_relocationsFor_46 (by decide) ?_
    obtain ⟨o50, hc50, h⟩ := az_bnd h
    refine az_callST (As := [.int (1 : Int32)]) (rest := []) ⟨hx, hb, hml, hown, hts⟩ hl.1 (kX6_checkElement l hst g sa (1 : Int32) o50 hc50) (va_cwS 1 hts gX6_relocationsFor_X6_checkElement rfl rfl rfl (by decide +kernel) ⟨(Nat.le_of_ble_eq_true rfl), (Nat.le_of_ble_eq_true rfl)⟩) rfl hK hcx hP hS hA (Nat.le_of_ble_eq_true rfl) dX6_relocationsFor_50 ⟨(Nat.le_of_ble_eq_true rfl), (Nat.le_of_ble_eq_true rfl)⟩ rfl (fun n50 ce q9 H locs hP hS hce hcv hcl => ?_) (fun c50 H locs hP hS => ?_)
    · replace h := az_neg n50 h
      have hP : va_P g.1 az_cl (az_w6 g ax an au V (az_cV g au (va_up (va_up (va_up (va_up (va_up (va_up (va_up (va_up (va_up (va_up (va_up (va_up (va_up (va_up (va_up (va_up (va_up T 0 o36.2.1) 1 o36.2.2.1) 2 o36.2.2.2.1) 3 o36.2.2.2.2.1) 4 o27.2.2.2.2.1) 5 o36.2.2.2.2.2.1) 6 o36.2.2.2.2.2.2.1) 7 o36.2.2.2.2.2.2.2.1) 8 o36.2.2.2.2.2.2.2.2.1) 9 o36.2.2.2.2.2.2.2.2.2.1) 10 o36.2.2.2.2.2.2.2.2.2.2.1) 11 o27.2.2.2.2.2.2.2.2.2.2.2.1) 12 o27.2.2.2.2.2.2.2.2.2.2.2.2.1) 13 o27.2.2.2.2.2.2.2.2.2.2.2.2.2.1) 14 o36.2.2.2.2.2.2.2.2.2.2.2.1) 15 o36.2.2.2.2.2.2.2.2.2.2.2.2.1) 16 o36.2.2.2.2.2.2.2.2.2.2.2.2.2) ++ az_cH g ax aw S hs)) _ := hP
      have hD : va_D A (az_w6 g ax an au V (az_cV g au (va_up (va_up (va_up (va_up (va_up (va_up (va_up (va_up (va_up (va_up (va_up (va_up (va_up (va_up (va_up (va_up (va_up T 0 o36.2.1) 1 o36.2.2.1) 2 o36.2.2.2.1) 3 o36.2.2.2.2.1) 4 o27.2.2.2.2.1) 5 o36.2.2.2.2.2.1) 6 o36.2.2.2.2.2.2.1) 7 o36.2.2.2.2.2.2.2.1) 8 o36.2.2.2.2.2.2.2.2.1) 9 o36.2.2.2.2.2.2.2.2.2.1) 10 o36.2.2.2.2.2.2.2.2.2.2.1) 11 o27.2.2.2.2.2.2.2.2.2.2.2.1) 12 o27.2.2.2.2.2.2.2.2.2.2.2.2.1) 13 o27.2.2.2.2.2.2.2.2.2.2.2.2.2.1) 14 o36.2.2.2.2.2.2.2.2.2.2.2.1) 15 o36.2.2.2.2.2.2.2.2.2.2.2.2.1) 16 o36.2.2.2.2.2.2.2.2.2.2.2.2.2) ++ az_cH g ax aw S hs)) := hD
      rw [← Option.some.inj h]
      exact az_outT n50 hex hlocks hce hcv hcl hK hP hD hS (Nat.le_of_ble_eq_true rfl) (Nat.le_of_ble_eq_true rfl)
    replace h := az_pos c50 h
    refine lv_iload_n hx hb dX6_relocationsFor_53 rfl (lv_at hl 0 rfl) ?_
    have hP : va_P g.1 az_cl (az_w6 g ax an au V (az_cV g au (va_up (va_up (va_up (va_up (va_up (va_up (va_up (va_up (va_up (va_up (va_up (va_up (va_up (va_up (va_up (va_up (va_up T 0 o36.2.1) 1 o36.2.2.1) 2 o36.2.2.2.1) 3 o36.2.2.2.2.1) 4 o27.2.2.2.2.1) 5 o36.2.2.2.2.2.1) 6 o36.2.2.2.2.2.2.1) 7 o36.2.2.2.2.2.2.2.1) 8 o36.2.2.2.2.2.2.2.2.1) 9 o36.2.2.2.2.2.2.2.2.2.1) 10 o36.2.2.2.2.2.2.2.2.2.2.1) 11 o27.2.2.2.2.2.2.2.2.2.2.2.1) 12 o27.2.2.2.2.2.2.2.2.2.2.2.2.1) 13 o27.2.2.2.2.2.2.2.2.2.2.2.2.2.1) 14 o36.2.2.2.2.2.2.2.2.2.2.2.1) 15 o36.2.2.2.2.2.2.2.2.2.2.2.2.1) 16 o36.2.2.2.2.2.2.2.2.2.2.2.2.2) ++ az_cH g ax aw S hs)) _ := hP
    have hD : va_D A (az_w6 g ax an au V (az_cV g au (va_up (va_up (va_up (va_up (va_up (va_up (va_up (va_up (va_up (va_up (va_up (va_up (va_up (va_up (va_up (va_up (va_up T 0 o36.2.1) 1 o36.2.2.1) 2 o36.2.2.2.1) 3 o36.2.2.2.2.1) 4 o27.2.2.2.2.1) 5 o36.2.2.2.2.2.1) 6 o36.2.2.2.2.2.2.1) 7 o36.2.2.2.2.2.2.2.1) 8 o36.2.2.2.2.2.2.2.2.1) 9 o36.2.2.2.2.2.2.2.2.2.1) 10 o36.2.2.2.2.2.2.2.2.2.2.1) 11 o27.2.2.2.2.2.2.2.2.2.2.2.1) 12 o27.2.2.2.2.2.2.2.2.2.2.2.2.1) 13 o27.2.2.2.2.2.2.2.2.2.2.2.2.2.1) 14 o36.2.2.2.2.2.2.2.2.2.2.2.1) 15 o36.2.2.2.2.2.2.2.2.2.2.2.2.1) 16 o36.2.2.2.2.2.2.2.2.2.2.2.2.2) ++ az_cH g ax aw S hs)) := hD
    rw [← Option.some.inj h]
    exact az_iretT hx hb hr hlocks hK hP hD hS dX6_relocationsFor_54 (Nat.le_of_ble_eq_true rfl) (Nat.le_of_ble_eq_true rfl)

def FX6_regainable_L4 : Nat → az_St → Int32 → Int32 → Option (Int32)
  | 0, _, _, _ => none
  | n + 1, V, y1, y2 => if (V 4) 0 ≤ y2 then (some (y1)) else ((FX5_useOf V y2).bind (fun o34 => FX6_regainable_L4 n V (y1 + (((V 4) 1) - o34)) (y2 + (1 : Int32))))
theorem FX6_regainable_L4_s (n : Nat) (V : az_St) (y1 : Int32) (y2 : Int32) : FX6_regainable_L4 (n + 1) V y1 y2 = (if (V 4) 0 ≤ y2 then (some (y1)) else ((FX5_useOf V y2).bind (fun o34 => FX6_regainable_L4 n V (y1 + (((V 4) 1) - o34)) (y2 + (1 : Int32))))) := rfl
def FX6_regainable (V : az_St) : Option (Int32) := FX6_regainable_L4 az_fuel V (0 : Int32) (0 : Int32)
theorem inX6_regainable_RX3 : ∀ w ∈ wsX30, w ∈ wsX6_regainable := az_inr [37, 38, 39, 40, 41, 42] (by decide +kernel)
theorem inX6_regainable_RX5 : ∀ w ∈ wsX50, w ∈ wsX6_regainable := az_inr [26, 27, 28, 29, 30, 31, 32, 33, 34, 35, 36] (by decide +kernel)
theorem inX6_regainable_RX6 : ∀ w ∈ wsX60, w ∈ wsX6_regainable := az_inr [23, 24, 25] (by decide +kernel)
set_option maxHeartbeats 4000000 in
set_option maxRecDepth 100000 in
theorem kX6_regainable (l : Launch) (g : az_G) (ax : Nat → Nat) (an : Nat → Nat) (au : Nat → Nat) (Y : va_W) (V : az_St) (o : Int32) (h : FX6_regainable V = some o) : az_I l yX6_regainable wsX6_regainable ({ frames := 3, cells := 0, slots := 0, locals := 69 } : Room) [.ref (ax 0)] g (az_w6 g ax an au V Y) o (az_w6 g ax an au V Y) := by
  refine az_body (cc := cX6_regainable) (maxL := 3) (ret := (some .int)) (Qc := fun A => az_QI g (az_w6 g ax an au V Y) o A) (by decide +kernel) rfl (Nat.le_of_ble_eq_true rfl) ?_
  intro p e s m args below meth c A hx hb hr hts hown hml hlocks hA hK hP hD hS ls hl
  have hl : lv_has ls 3 [(0, .ref (ax 0))] := hl
  unfold FX6_regainable at h
  have hL4 : ∀ (n : Nat) (y1 : Int32) (y2 : Int32) (H : Heap) (locs : List Loc) (ls : Array Slot), FX6_regainable_L4 n V y1 y2 = some o → va_P g.1 az_cl (az_w6 g ax an au V Y) H → va_D A (az_w6 g ax an au V Y) → va_S A s.heap H locs → lv_has ls 3 [(0, .ref (ax 0)), (1, .int y1), (2, .int y2)] → W p l e ({ frames := 3, cells := 0, slots := 0, locals := 69 } : Room) s m args below meth c H locs 0 0 (MQ below (az_QI g (az_w6 g ax an au V Y) o A) args s 0 0 A) (F0 m 4 ls []) := by
    intro n
    induction n with
    | zero => intro y1 y2 H locs ls h; exact az_non h
    | succ n ih =>
      intro y1 y2 H locs ls h hP hD hS hl
      rw [FX6_regainable_L4_s] at h
      refine lv_iload_n hx hb dX6_regainable_4 rfl (lv_at hl 2 rfl) ?_
      refine lv_aload_n hx hb dX6_regainable_5 rfl (lv_at hl 0 rfl) ?_
      refine va_get (D := g.1) (ci := 6) (v := .ref (an 0)) (C := RX6) (T := TX6) (N := 3) hx hb hts inX6_regainable_RX6 hown hK hP 0 rfl rfl 0 (Nat.le_of_ble_eq_true rfl) (hts _ (List.mem_of_getElem? (i := 1) rfl)) (fun _ h9 => h9) rfl dX6_regainable_6 ?_
      refine va_get (D := g.1) (ci := 5) (v := .ref (an 1)) (C := RX5) (T := TX5) (N := 11) hx hb hts inX6_regainable_RX5 hown hK hP 1 rfl rfl 0 (Nat.le_of_ble_eq_true rfl) (hts _ (List.mem_of_getElem? (i := 2) rfl)) (fun _ h9 => h9) rfl dX6_regainable_9 ?_
      refine va_get (D := g.1) (ci := 3) (v := .int ((V 4) 0)) (C := RX3) (T := TX3) (N := 6) hx hb hts inX6_regainable_RX3 hown hK hP 2 rfl rfl 4 (Nat.le_of_ble_eq_true rfl) (hts _ (List.mem_of_getElem? (i := 3) rfl)) (fun _ h9 => h9) rfl dX6_regainable_12 ?_
      refine lv_icmp_ge (tgt := 46) hx hb dX6_regainable_15 (by decide) (fun c15 => ?_) (fun c15 => ?_)
      · replace h := az_pos c15 h
        refine lv_iload_n hx hb dX6_regainable_46 rfl (lv_at hl 1 rfl) ?_
        have hP : va_P g.1 az_cl (az_w6 g ax an au V Y) _ := hP
        have hD : va_D A (az_w6 g ax an au V Y) := hD
        rw [← Option.some.inj h]
        exact az_iret hx hb hr hlocks hK hP hD hS dX6_regainable_47
      · replace h := az_neg c15 h
        refine lv_iload_n hx hb dX6_regainable_18 rfl (lv_at hl 1 rfl) ?_
        refine lv_aload_n hx hb dX6_regainable_19 rfl (lv_at hl 0 rfl) ?_
        refine va_get (D := g.1) (ci := 6) (v := .ref (an 0)) (C := RX6) (T := TX6) (N := 3) hx hb hts inX6_regainable_RX6 hown hK hP 0 rfl rfl 0 (Nat.le_of_ble_eq_true rfl) (hts _ (List.mem_of_getElem? (i := 1) rfl)) (fun _ h9 => h9) rfl dX6_regainable_20 ?_
        refine va_get (D := g.1) (ci := 5) (v := .ref (an 1)) (C := RX5) (T := TX5) (N := 11) hx hb hts inX6_regainable_RX5 hown hK hP 1 rfl rfl 0 (Nat.le_of_ble_eq_true rfl) (hts _ (List.mem_of_getElem? (i := 2) rfl)) (fun _ h9 => h9) rfl dX6_regainable_23 ?_
        refine va_get (D := g.1) (ci := 3) (v := .int ((V 4) 1)) (C := RX3) (T := TX3) (N := 6) hx hb hts inX6_regainable_RX3 hown hK hP 2 rfl rfl 5 (Nat.le_of_ble_eq_true rfl) (hts _ (List.mem_of_getElem? (i := 4) rfl)) (fun _ h9 => h9) rfl dX6_regainable_26 ?_
        refine lv_aload_n hx hb dX6_regainable_29 rfl (lv_at hl 0 rfl) ?_
        refine va_get (D := g.1) (ci := 6) (v := .ref (an 0)) (C := RX6) (T := TX6) (N := 3) hx hb hts inX6_regainable_RX6 hown hK hP 0 rfl rfl 0 (Nat.le_of_ble_eq_true rfl) (hts _ (List.mem_of_getElem? (i := 1) rfl)) (fun _ h9 => h9) rfl dX6_regainable_30 ?_
        refine lv_iload_n hx hb dX6_regainable_33 rfl (lv_at hl 2 rfl) ?_
        obtain ⟨o34, hc34, h⟩ := az_bnd h
        refine az_callPi (w2 := az_w6 g ax an au V Y) (As := [.int y2]) (rest := [.int ((V 4) 1), .int y1]) ⟨hx, hb, hml, hown, hts⟩ hl.1 (kX5_useOf l g an V y2 o34 hc34) (cwV 1 hts gX6_regainable_X5_useOf rfl rfl rfl (by decide +kernel) ⟨(Nat.le_of_ble_eq_true rfl), (Nat.le_of_ble_eq_true rfl)⟩) rfl hK hP hD hS hA (az_pm (az_x ax an au :: (az_cV g an V).take 0) (az_cV g an V) ((az_cV g an V).drop 20 ++ Y)) (az_pm (az_x ax an au :: (az_cV g an V).take 0) (az_cV g an V) ((az_cV g an V).drop 20 ++ Y)).symm 0 rfl rfl rfl (Nat.le_of_ble_eq_true rfl) dX6_regainable_34 ⟨Nat.zero_le _, Nat.zero_le _⟩ rfl (fun H locs hP hD hS => ?_)
        have hP : va_P g.1 az_cl (az_w6 g ax an au V Y) _ := hP
        have hD : va_D A (az_w6 g ax an au V Y) := hD
        refine lv_isub hx hb dX6_regainable_37 ?_
        refine lv_iadd hx hb dX6_regainable_38 ?_
        refine lv_istore_n (lv' := [(1, .int (y1 + (((V 4) 1) - o34))), (0, .ref (ax 0)), (2, .int y2)]) hx hb dX6_regainable_39 rfl hl (by decide) rfl (fun ls hl => ?_)
        refine lv_iinc (v := y2 + (1 : Int32)) (lv' := [(2, .int (y2 + (1 : Int32))), (1, .int (y1 + (((V 4) 1) - o34))), (0, .ref (ax 0))]) hx hb dX6_regainable_40 hl (k := 2) rfl (rfl) (by decide) rfl (fun ls hl => ?_)
        refine lv_goto (tgt := 4) hx hb dX6_regainable_43 (by decide) ?_
        have hP : va_P g.1 az_cl (az_w6 g ax an au V Y) _ := hP
        have hD : va_D A (az_w6 g ax an au V Y) := hD
        exact ih (y1 + (((V 4) 1) - o34)) (y2 + (1 : Int32)) _ _ ls h hP hD hS (lv_sub hl [2, 1, 0] rfl)
  refine lv_iconst (v := (0 : Int32)) hx hb dX6_regainable_0 (by decide) ?_
  refine lv_istore_n (lv' := [(1, .int (0 : Int32)), (0, .ref (ax 0))]) hx hb dX6_regainable_1 rfl hl (by decide) rfl (fun ls hl => ?_)
  refine lv_iconst (v := (0 : Int32)) hx hb dX6_regainable_2 (by decide) ?_
  refine lv_istore_n (lv' := [(2, .int (0 : Int32)), (1, .int (0 : Int32)), (0, .ref (ax 0))]) hx hb dX6_regainable_3 rfl hl (by decide) rfl (fun ls hl => ?_)
  have hP : va_P g.1 az_cl (az_w6 g ax an au V Y) _ := hP
  have hD : va_D A (az_w6 g ax an au V Y) := hD
  exact hL4 az_fuel (0 : Int32) (0 : Int32) _ _ ls h hP hD hS (lv_sub hl [2, 1, 0] rfl)

def FX6_regainableNow_L4 : Nat → az_St → Int32 → Int32 → Option (Int32)
  | 0, _, _, _ => none
  | n + 1, V, y1, y2 => if (V 4) 0 ≤ y2 then (some (y1)) else ((FX5_canBeErased V y2).bind (fun o23 => if o23 = (0 : Int32) then (FX6_regainableNow_L4 n V y1 (y2 + (1 : Int32))) else (FX6_regainableNow_L4 n V (y1 + ((V 4) 1)) (y2 + (1 : Int32)))))
theorem FX6_regainableNow_L4_s (n : Nat) (V : az_St) (y1 : Int32) (y2 : Int32) : FX6_regainableNow_L4 (n + 1) V y1 y2 = (if (V 4) 0 ≤ y2 then (some (y1)) else ((FX5_canBeErased V y2).bind (fun o23 => if o23 = (0 : Int32) then (FX6_regainableNow_L4 n V y1 (y2 + (1 : Int32))) else (FX6_regainableNow_L4 n V (y1 + ((V 4) 1)) (y2 + (1 : Int32)))))) := rfl
def FX6_regainableNow (V : az_St) : Option (Int32) := FX6_regainableNow_L4 az_fuel V (0 : Int32) (0 : Int32)
theorem inX6_regainableNow_RX3 : ∀ w ∈ wsX30, w ∈ wsX6_regainableNow := az_inr [42, 43, 44, 45, 46, 47] (by decide +kernel)
theorem inX6_regainableNow_RX5 : ∀ w ∈ wsX50, w ∈ wsX6_regainableNow := az_inr [31, 32, 33, 34, 35, 36, 37, 38, 39, 40, 41] (by decide +kernel)
theorem inX6_regainableNow_RX6 : ∀ w ∈ wsX60, w ∈ wsX6_regainableNow := az_inr [28, 29, 30] (by decide +kernel)
set_option maxHeartbeats 4000000 in
set_option maxRecDepth 100000 in
theorem kX6_regainableNow (l : Launch) (g : az_G) (ax : Nat → Nat) (an : Nat → Nat) (au : Nat → Nat) (Y : va_W) (V : az_St) (o : Int32) (h : FX6_regainableNow V = some o) : az_I l yX6_regainableNow wsX6_regainableNow ({ frames := 4, cells := 0, slots := 0, locals := 90 } : Room) [.ref (ax 0)] g (az_w6 g ax an au V Y) o (az_w6 g ax an au V Y) := by
  refine az_body (cc := cX6_regainableNow) (maxL := 3) (ret := (some .int)) (Qc := fun A => az_QI g (az_w6 g ax an au V Y) o A) (by decide +kernel) rfl (Nat.le_of_ble_eq_true rfl) ?_
  intro p e s m args below meth c A hx hb hr hts hown hml hlocks hA hK hP hD hS ls hl
  have hl : lv_has ls 3 [(0, .ref (ax 0))] := hl
  unfold FX6_regainableNow at h
  have hL4 : ∀ (n : Nat) (y1 : Int32) (y2 : Int32) (H : Heap) (locs : List Loc) (ls : Array Slot), FX6_regainableNow_L4 n V y1 y2 = some o → va_P g.1 az_cl (az_w6 g ax an au V Y) H → va_D A (az_w6 g ax an au V Y) → va_S A s.heap H locs → lv_has ls 3 [(0, .ref (ax 0)), (1, .int y1), (2, .int y2)] → W p l e ({ frames := 4, cells := 0, slots := 0, locals := 90 } : Room) s m args below meth c H locs 0 0 (MQ below (az_QI g (az_w6 g ax an au V Y) o A) args s 0 0 A) (F0 m 4 ls []) := by
    intro n
    induction n with
    | zero => intro y1 y2 H locs ls h; exact az_non h
    | succ n ih =>
      intro y1 y2 H locs ls h hP hD hS hl
      rw [FX6_regainableNow_L4_s] at h
      refine lv_iload_n hx hb dX6_regainableNow_4 rfl (lv_at hl 2 rfl) ?_
      refine lv_aload_n hx hb dX6_regainableNow_5 rfl (lv_at hl 0 rfl) ?_
      refine va_get (D := g.1) (ci := 6) (v := .ref (an 0)) (C := RX6) (T := TX6) (N := 3) hx hb hts inX6_regainableNow_RX6 hown hK hP 0 rfl rfl 0 (Nat.le_of_ble_eq_true rfl) (hts _ (List.mem_of_getElem? (i := 1) rfl)) (fun _ h9 => h9) rfl dX6_regainableNow_6 ?_
      refine va_get (D := g.1) (ci := 5) (v := .ref (an 1)) (C := RX5) (T := TX5) (N := 11) hx hb hts inX6_regainableNow_RX5 hown hK hP 1 rfl rfl 0 (Nat.le_of_ble_eq_true rfl) (hts _ (List.mem_of_getElem? (i := 2) rfl)) (fun _ h9 => h9) rfl dX6_regainableNow_9 ?_
      refine va_get (D := g.1) (ci := 3) (v := .int ((V 4) 0)) (C := RX3) (T := TX3) (N := 6) hx hb hts inX6_regainableNow_RX3 hown hK hP 2 rfl rfl 4 (Nat.le_of_ble_eq_true rfl) (hts _ (List.mem_of_getElem? (i := 3) rfl)) (fun _ h9 => h9) rfl dX6_regainableNow_12 ?_
      refine lv_icmp_ge (tgt := 48) hx hb dX6_regainableNow_15 (by decide) (fun c15 => ?_) (fun c15 => ?_)
      · replace h := az_pos c15 h
        refine lv_iload_n hx hb dX6_regainableNow_48 rfl (lv_at hl 1 rfl) ?_
        have hP : va_P g.1 az_cl (az_w6 g ax an au V Y) _ := hP
        have hD : va_D A (az_w6 g ax an au V Y) := hD
        rw [← Option.some.inj h]
        exact az_iret hx hb hr hlocks hK hP hD hS dX6_regainableNow_49
      · replace h := az_neg c15 h
        refine lv_aload_n hx hb dX6_regainableNow_18 rfl (lv_at hl 0 rfl) ?_
        refine va_get (D := g.1) (ci := 6) (v := .ref (an 0)) (C := RX6) (T := TX6) (N := 3) hx hb hts inX6_regainableNow_RX6 hown hK hP 0 rfl rfl 0 (Nat.le_of_ble_eq_true rfl) (hts _ (List.mem_of_getElem? (i := 1) rfl)) (fun _ h9 => h9) rfl dX6_regainableNow_19 ?_
        refine lv_iload_n hx hb dX6_regainableNow_22 rfl (lv_at hl 2 rfl) ?_
        obtain ⟨o23, hc23, h⟩ := az_bnd h
        refine az_callPi (w2 := az_w6 g ax an au V Y) (As := [.int y2]) (rest := []) ⟨hx, hb, hml, hown, hts⟩ hl.1 (kX5_canBeErased l g an V y2 o23 hc23) (cwV 1 hts gX6_regainableNow_X5_canBeErased rfl rfl rfl (by decide +kernel) ⟨(Nat.le_of_ble_eq_true rfl), (Nat.le_of_ble_eq_true rfl)⟩) rfl hK hP hD hS hA (az_pm (az_x ax an au :: (az_cV g an V).take 0) (az_cV g an V) ((az_cV g an V).drop 20 ++ Y)) (az_pm (az_x ax an au :: (az_cV g an V).take 0) (az_cV g an V) ((az_cV g an V).drop 20 ++ Y)).symm 0 rfl rfl rfl (Nat.le_of_ble_eq_true rfl) dX6_regainableNow_23 ⟨Nat.zero_le _, Nat.zero_le _⟩ rfl (fun H locs hP hD hS => ?_)
        have hP : va_P g.1 az_cl (az_w6 g ax an au V Y) _ := hP
        have hD : va_D A (az_w6 g ax an au V Y) := hD
        refine lv_if_eq (tgt := 42) hx hb dX6_regainableNow_26 (by decide) (fun c26 => ?_) (fun c26 => ?_)
        · replace h := az_pos c26 h
          refine lv_iinc (v := y2 + (1 : Int32)) (lv' := [(2, .int (y2 + (1 : Int32))), (0, .ref (ax 0)), (1, .int y1)]) hx hb dX6_regainableNow_42 hl (k := 2) rfl (rfl) (by decide) rfl (fun ls hl => ?_)
          refine lv_goto (tgt := 4) hx hb dX6_regainableNow_45 (by decide) ?_
          have hP : va_P g.1 az_cl (az_w6 g ax an au V Y) _ := hP
          have hD : va_D A (az_w6 g ax an au V Y) := hD
          exact ih y1 (y2 + (1 : Int32)) _ _ ls h hP hD hS (lv_sub hl [1, 2, 0] rfl)
        · replace h := az_neg c26 h
          refine lv_iload_n hx hb dX6_regainableNow_29 rfl (lv_at hl 1 rfl) ?_
          refine lv_aload_n hx hb dX6_regainableNow_30 rfl (lv_at hl 0 rfl) ?_
          refine va_get (D := g.1) (ci := 6) (v := .ref (an 0)) (C := RX6) (T := TX6) (N := 3) hx hb hts inX6_regainableNow_RX6 hown hK hP 0 rfl rfl 0 (Nat.le_of_ble_eq_true rfl) (hts _ (List.mem_of_getElem? (i := 1) rfl)) (fun _ h9 => h9) rfl dX6_regainableNow_31 ?_
          refine va_get (D := g.1) (ci := 5) (v := .ref (an 1)) (C := RX5) (T := TX5) (N := 11) hx hb hts inX6_regainableNow_RX5 hown hK hP 1 rfl rfl 0 (Nat.le_of_ble_eq_true rfl) (hts _ (List.mem_of_getElem? (i := 2) rfl)) (fun _ h9 => h9) rfl dX6_regainableNow_34 ?_
          refine va_get (D := g.1) (ci := 3) (v := .int ((V 4) 1)) (C := RX3) (T := TX3) (N := 6) hx hb hts inX6_regainableNow_RX3 hown hK hP 2 rfl rfl 5 (Nat.le_of_ble_eq_true rfl) (hts _ (List.mem_of_getElem? (i := 4) rfl)) (fun _ h9 => h9) rfl dX6_regainableNow_37 ?_
          refine lv_iadd hx hb dX6_regainableNow_40 ?_
          refine lv_istore_n (lv' := [(1, .int (y1 + ((V 4) 1))), (0, .ref (ax 0)), (2, .int y2)]) hx hb dX6_regainableNow_41 rfl hl (by decide) rfl (fun ls hl => ?_)
          refine lv_iinc (v := y2 + (1 : Int32)) (lv' := [(2, .int (y2 + (1 : Int32))), (1, .int (y1 + ((V 4) 1))), (0, .ref (ax 0))]) hx hb dX6_regainableNow_42 hl (k := 2) rfl (rfl) (by decide) rfl (fun ls hl => ?_)
          refine lv_goto (tgt := 4) hx hb dX6_regainableNow_45 (by decide) ?_
          have hP : va_P g.1 az_cl (az_w6 g ax an au V Y) _ := hP
          have hD : va_D A (az_w6 g ax an au V Y) := hD
          exact ih (y1 + ((V 4) 1)) (y2 + (1 : Int32)) _ _ ls h hP hD hS (lv_sub hl [2, 1, 0] rfl)
  refine lv_iconst (v := (0 : Int32)) hx hb dX6_regainableNow_0 (by decide) ?_
  refine lv_istore_n (lv' := [(1, .int (0 : Int32)), (0, .ref (ax 0))]) hx hb dX6_regainableNow_1 rfl hl (by decide) rfl (fun ls hl => ?_)
  refine lv_iconst (v := (0 : Int32)) hx hb dX6_regainableNow_2 (by decide) ?_
  refine lv_istore_n (lv' := [(2, .int (0 : Int32)), (1, .int (0 : Int32)), (0, .ref (ax 0))]) hx hb dX6_regainableNow_3 rfl hl (by decide) rfl (fun ls hl => ?_)
  have hP : va_P g.1 az_cl (az_w6 g ax an au V Y) _ := hP
  have hD : va_D A (az_w6 g ax an au V Y) := hD
  exact hL4 az_fuel (0 : Int32) (0 : Int32) _ _ ls h hP hD hS (lv_sub hl [2, 1, 0] rfl)

def FX6_amplification (V : az_St) (x1 : Int32) : Option (Nat × Int32) := if (V 16) 4 ≤ (0 : Int32) then ((FX6_checkElement (0 : Int32)).bind (fun o15 => if o15 = 0 then ((FX6_inLowestTerms (((V 16) 4) + ((V 16) 5)) ((V 16) 4) x1).bind (fun o41 => some (0, o41))) else some (o15, (0 : Int32)))) else ((FX6_checkElement (1 : Int32)).bind (fun o15 => if o15 = 0 then ((FX6_inLowestTerms (((V 16) 4) + ((V 16) 5)) ((V 16) 4) x1).bind (fun o41 => some (0, o41))) else some (o15, (0 : Int32))))
theorem inX6_amplification_RX5 : ∀ w ∈ wsX50, w ∈ wsX6_amplification := az_inr [19, 20, 21, 22, 23, 24, 25, 26, 27, 28, 29] (by decide +kernel)
theorem inX6_amplification_RX6 : ∀ w ∈ wsX60, w ∈ wsX6_amplification := az_inr [16, 17, 18] (by decide +kernel)
set_option maxHeartbeats 4000000 in
set_option maxRecDepth 100000 in
theorem kX6_amplification (l : Launch) (hst : l.stackTraces = false) (g : az_G) (sa : Nat → Nat) (ax : Nat → Nat) (an : Nat → Nat) (au : Nat → Nat) (Y : va_W) (V : az_St) (x1 : Int32) (o : Nat × Int32) (h : FX6_amplification V x1 = some o) : az_TI l yX6_amplification wsX6_amplification ({ frames := 7, cells := 1, slots := 6, locals := 120 } : Room) [.ref (ax 0), .int x1] g sa (az_w6 g ax an au V Y) o.1 o.2 (az_w6 g ax an au V Y) 1 := by
  refine az_bodyT (cc := cX6_amplification) (maxL := 2) (ret := (some .int)) (mc := 1) (ms := 6) (Qc := fun A => az_QTI g (az_w6 g ax an au V Y) o.1 o.2 A) (XC := fun A => az_XT g (az_w6 g ax an au V Y) o.1 A) (by decide +kernel) rfl (Nat.le_of_ble_eq_true rfl) ?_
  intro p e s m args below meth c A hx hb hr hts hown hml hlocks hex hcx hA hK hP hD hS ls hl
  have hl : lv_has ls 2 [(0, .ref (ax 0)), (1, .int x1)] := hl
  unfold FX6_amplification at h
  refine lv_aload_n hx hb dX6_amplification_0 rfl (lv_at hl 0 rfl) ?_
  refine va_get (D := g.1) (ci := 6) (v := .ref (an 0)) (C := RX6) (T := TX6) (N := 3) hx hb hts inX6_amplification_RX6 hown hK hP 0 rfl rfl 0 (Nat.le_of_ble_eq_true rfl) (hts _ (List.mem_of_getElem? (i := 1) rfl)) (fun _ h9 => h9) rfl dX6_amplification_1 ?_
  refine va_get (D := g.1) (ci := 5) (v := .int ((V 16) 4)) (C := RX5) (T := TX5) (N := 11) hx hb hts inX6_amplification_RX5 hown hK hP 1 rfl rfl 9 (Nat.le_of_ble_eq_true rfl) (hts _ (List.mem_of_getElem? (i := 2) rfl)) (fun _ h9 => h9) rfl dX6_amplification_4 ?_
  refine lv_if_le (tgt := 14) hx hb dX6_amplification_7 (by decide) (fun c7 => ?_) (fun c7 => ?_)
  · replace h := az_pos c7 h
    refine lv_iconst (v := (0 : Int32)) hx hb dX6_amplification_14 (by decide) ?_
    obtain ⟨o15, hc15, h⟩ := az_bnd h
    refine az_callST (As := [.int (0 : Int32)]) (rest := []) ⟨hx, hb, hml, hown, hts⟩ hl.1 (kX6_checkElement l hst g sa (0 : Int32) o15 hc15) (va_cwS 1 hts gX6_amplification_X6_checkElement rfl rfl rfl (by decide +kernel) ⟨(Nat.le_of_ble_eq_true rfl), (Nat.le_of_ble_eq_true rfl)⟩) rfl hK hcx hP hS hA (Nat.le_of_ble_eq_true rfl) dX6_amplification_15 ⟨(Nat.le_of_ble_eq_true rfl), (Nat.le_of_ble_eq_true rfl)⟩ rfl (fun n15 ce q9 H locs hP hS hce hcv hcl => ?_) (fun c15 H locs hP hS => ?_)
    · replace h := az_neg n15 h
      have hP : va_P g.1 az_cl (az_w6 g ax an au V Y) _ := hP
      have hD : va_D A (az_w6 g ax an au V Y) := hD
      rw [← Option.some.inj h]
      exact az_outT n15 hex hlocks hce hcv hcl hK hP hD hS (Nat.le_of_ble_eq_true rfl) (Nat.le_of_ble_eq_true rfl)
    replace h := az_pos c15 h
    refine lv_aload_n hx hb dX6_amplification_18 rfl (lv_at hl 0 rfl) ?_
    refine va_get (D := g.1) (ci := 6) (v := .ref (an 0)) (C := RX6) (T := TX6) (N := 3) hx hb hts inX6_amplification_RX6 hown hK hP 0 rfl rfl 0 (Nat.le_of_ble_eq_true rfl) (hts _ (List.mem_of_getElem? (i := 1) rfl)) (fun _ h9 => h9) rfl dX6_amplification_19 ?_
    refine va_get (D := g.1) (ci := 5) (v := .int ((V 16) 4)) (C := RX5) (T := TX5) (N := 11) hx hb hts inX6_amplification_RX5 hown hK hP 1 rfl rfl 9 (Nat.le_of_ble_eq_true rfl) (hts _ (List.mem_of_getElem? (i := 2) rfl)) (fun _ h9 => h9) rfl dX6_amplification_22 ?_
    refine lv_aload_n hx hb dX6_amplification_25 rfl (lv_at hl 0 rfl) ?_
    refine va_get (D := g.1) (ci := 6) (v := .ref (an 0)) (C := RX6) (T := TX6) (N := 3) hx hb hts inX6_amplification_RX6 hown hK hP 0 rfl rfl 0 (Nat.le_of_ble_eq_true rfl) (hts _ (List.mem_of_getElem? (i := 1) rfl)) (fun _ h9 => h9) rfl dX6_amplification_26 ?_
    refine va_get (D := g.1) (ci := 5) (v := .int ((V 16) 5)) (C := RX5) (T := TX5) (N := 11) hx hb hts inX6_amplification_RX5 hown hK hP 1 rfl rfl 10 (Nat.le_of_ble_eq_true rfl) (hts _ (List.mem_of_getElem? (i := 3) rfl)) (fun _ h9 => h9) rfl dX6_amplification_29 ?_
    refine lv_iadd hx hb dX6_amplification_32 ?_
    refine lv_aload_n hx hb dX6_amplification_33 rfl (lv_at hl 0 rfl) ?_
    refine va_get (D := g.1) (ci := 6) (v := .ref (an 0)) (C := RX6) (T := TX6) (N := 3) hx hb hts inX6_amplification_RX6 hown hK hP 0 rfl rfl 0 (Nat.le_of_ble_eq_true rfl) (hts _ (List.mem_of_getElem? (i := 1) rfl)) (fun _ h9 => h9) rfl dX6_amplification_34 ?_
    refine va_get (D := g.1) (ci := 5) (v := .int ((V 16) 4)) (C := RX5) (T := TX5) (N := 11) hx hb hts inX6_amplification_RX5 hown hK hP 1 rfl rfl 9 (Nat.le_of_ble_eq_true rfl) (hts _ (List.mem_of_getElem? (i := 2) rfl)) (fun _ h9 => h9) rfl dX6_amplification_37 ?_
    refine lv_iload_n hx hb dX6_amplification_40 rfl (lv_at hl 1 rfl) ?_
    obtain ⟨o41, hc41, h⟩ := az_bnd h
    refine az_callS0 (As := [.int (((V 16) 4) + ((V 16) 5)), .int ((V 16) 4), .int x1]) (rest := []) ⟨hx, hb, hml, hown, hts⟩ hl.1 (kX6_inLowestTerms l g (((V 16) 4) + ((V 16) 5)) ((V 16) 4) x1 o41 hc41) (va_cwS 3 hts gX6_amplification_X6_inLowestTerms rfl rfl rfl (by decide +kernel) ⟨(Nat.le_of_ble_eq_true rfl), (Nat.le_of_ble_eq_true rfl)⟩) rfl hK hP hS hA (Nat.le_of_ble_eq_true rfl) dX6_amplification_41 ⟨(Nat.le_of_ble_eq_true rfl), (Nat.le_of_ble_eq_true rfl)⟩ rfl (fun H locs hP hS => ?_)
    have hP : va_P g.1 az_cl (az_w6 g ax an au V Y) _ := hP
    have hD : va_D A (az_w6 g ax an au V Y) := hD
    rw [← Option.some.inj h]
    exact az_iretT hx hb hr hlocks hK hP hD hS dX6_amplification_44 (Nat.le_of_ble_eq_true rfl) (Nat.le_of_ble_eq_true rfl)
  · replace h := az_neg c7 h
    refine lv_iconst (v := (1 : Int32)) hx hb dX6_amplification_10 (by decide) ?_
    refine lv_goto (tgt := 15) hx hb dX6_amplification_11 (by decide) ?_
    obtain ⟨o15, hc15, h⟩ := az_bnd h
    refine az_callST (As := [.int (1 : Int32)]) (rest := []) ⟨hx, hb, hml, hown, hts⟩ hl.1 (kX6_checkElement l hst g sa (1 : Int32) o15 hc15) (va_cwS 1 hts gX6_amplification_X6_checkElement rfl rfl rfl (by decide +kernel) ⟨(Nat.le_of_ble_eq_true rfl), (Nat.le_of_ble_eq_true rfl)⟩) rfl hK hcx hP hS hA (Nat.le_of_ble_eq_true rfl) dX6_amplification_15 ⟨(Nat.le_of_ble_eq_true rfl), (Nat.le_of_ble_eq_true rfl)⟩ rfl (fun n15 ce q9 H locs hP hS hce hcv hcl => ?_) (fun c15 H locs hP hS => ?_)
    · replace h := az_neg n15 h
      have hP : va_P g.1 az_cl (az_w6 g ax an au V Y) _ := hP
      have hD : va_D A (az_w6 g ax an au V Y) := hD
      rw [← Option.some.inj h]
      exact az_outT n15 hex hlocks hce hcv hcl hK hP hD hS (Nat.le_of_ble_eq_true rfl) (Nat.le_of_ble_eq_true rfl)
    replace h := az_pos c15 h
    refine lv_aload_n hx hb dX6_amplification_18 rfl (lv_at hl 0 rfl) ?_
    refine va_get (D := g.1) (ci := 6) (v := .ref (an 0)) (C := RX6) (T := TX6) (N := 3) hx hb hts inX6_amplification_RX6 hown hK hP 0 rfl rfl 0 (Nat.le_of_ble_eq_true rfl) (hts _ (List.mem_of_getElem? (i := 1) rfl)) (fun _ h9 => h9) rfl dX6_amplification_19 ?_
    refine va_get (D := g.1) (ci := 5) (v := .int ((V 16) 4)) (C := RX5) (T := TX5) (N := 11) hx hb hts inX6_amplification_RX5 hown hK hP 1 rfl rfl 9 (Nat.le_of_ble_eq_true rfl) (hts _ (List.mem_of_getElem? (i := 2) rfl)) (fun _ h9 => h9) rfl dX6_amplification_22 ?_
    refine lv_aload_n hx hb dX6_amplification_25 rfl (lv_at hl 0 rfl) ?_
    refine va_get (D := g.1) (ci := 6) (v := .ref (an 0)) (C := RX6) (T := TX6) (N := 3) hx hb hts inX6_amplification_RX6 hown hK hP 0 rfl rfl 0 (Nat.le_of_ble_eq_true rfl) (hts _ (List.mem_of_getElem? (i := 1) rfl)) (fun _ h9 => h9) rfl dX6_amplification_26 ?_
    refine va_get (D := g.1) (ci := 5) (v := .int ((V 16) 5)) (C := RX5) (T := TX5) (N := 11) hx hb hts inX6_amplification_RX5 hown hK hP 1 rfl rfl 10 (Nat.le_of_ble_eq_true rfl) (hts _ (List.mem_of_getElem? (i := 3) rfl)) (fun _ h9 => h9) rfl dX6_amplification_29 ?_
    refine lv_iadd hx hb dX6_amplification_32 ?_
    refine lv_aload_n hx hb dX6_amplification_33 rfl (lv_at hl 0 rfl) ?_
    refine va_get (D := g.1) (ci := 6) (v := .ref (an 0)) (C := RX6) (T := TX6) (N := 3) hx hb hts inX6_amplification_RX6 hown hK hP 0 rfl rfl 0 (Nat.le_of_ble_eq_true rfl) (hts _ (List.mem_of_getElem? (i := 1) rfl)) (fun _ h9 => h9) rfl dX6_amplification_34 ?_
    refine va_get (D := g.1) (ci := 5) (v := .int ((V 16) 4)) (C := RX5) (T := TX5) (N := 11) hx hb hts inX6_amplification_RX5 hown hK hP 1 rfl rfl 9 (Nat.le_of_ble_eq_true rfl) (hts _ (List.mem_of_getElem? (i := 2) rfl)) (fun _ h9 => h9) rfl dX6_amplification_37 ?_
    refine lv_iload_n hx hb dX6_amplification_40 rfl (lv_at hl 1 rfl) ?_
    obtain ⟨o41, hc41, h⟩ := az_bnd h
    refine az_callS0 (As := [.int (((V 16) 4) + ((V 16) 5)), .int ((V 16) 4), .int x1]) (rest := []) ⟨hx, hb, hml, hown, hts⟩ hl.1 (kX6_inLowestTerms l g (((V 16) 4) + ((V 16) 5)) ((V 16) 4) x1 o41 hc41) (va_cwS 3 hts gX6_amplification_X6_inLowestTerms rfl rfl rfl (by decide +kernel) ⟨(Nat.le_of_ble_eq_true rfl), (Nat.le_of_ble_eq_true rfl)⟩) rfl hK hP hS hA (Nat.le_of_ble_eq_true rfl) dX6_amplification_41 ⟨(Nat.le_of_ble_eq_true rfl), (Nat.le_of_ble_eq_true rfl)⟩ rfl (fun H locs hP hS => ?_)
    have hP : va_P g.1 az_cl (az_w6 g ax an au V Y) _ := hP
    have hD : va_D A (az_w6 g ax an au V Y) := hD
    rw [← Option.some.inj h]
    exact az_iretT hx hb hr hlocks hK hP hD hS dX6_amplification_44 (Nat.le_of_ble_eq_true rfl) (Nat.le_of_ble_eq_true rfl)

def FX6_wearGap_L17 : Nat → az_St → Int32 → Int32 → Int32 → Option (Int32)
  | 0, _, _, _, _ => none
  | n + 1, V, y1, y2, y3 => if (V 4) 0 ≤ y3 then (some (y2 - y1)) else (if az_in y3 10 = true then az_lt ((if (V 1) y3.toNatClampNeg < y1 then (V 1) y3.toNatClampNeg else y1)) (fun z47 => az_lt ((if y2 < (V 1) y3.toNatClampNeg then (V 1) y3.toNatClampNeg else y2)) (fun z64 => FX6_wearGap_L17 n V z47 z64 (y3 + (1 : Int32)))) else none)
theorem FX6_wearGap_L17_s (n : Nat) (V : az_St) (y1 : Int32) (y2 : Int32) (y3 : Int32) : FX6_wearGap_L17 (n + 1) V y1 y2 y3 = (if (V 4) 0 ≤ y3 then (some (y2 - y1)) else (if az_in y3 10 = true then az_lt ((if (V 1) y3.toNatClampNeg < y1 then (V 1) y3.toNatClampNeg else y1)) (fun z47 => az_lt ((if y2 < (V 1) y3.toNatClampNeg then (V 1) y3.toNatClampNeg else y2)) (fun z64 => FX6_wearGap_L17 n V z47 z64 (y3 + (1 : Int32)))) else none)) := rfl
def FX6_wearGap (V : az_St) : Option (Int32) := FX6_wearGap_L17 az_fuel V ((V 1) (0 : Int32).toNatClampNeg) ((V 1) (0 : Int32).toNatClampNeg) (1 : Int32)
theorem inX6_wearGap_RX3 : ∀ w ∈ wsX30, w ∈ wsX6_wearGap := az_inr [26, 27, 28, 29, 30, 31] (by decide +kernel)
theorem inX6_wearGap_RX5 : ∀ w ∈ wsX50, w ∈ wsX6_wearGap := az_inr [15, 16, 17, 18, 19, 20, 21, 22, 23, 24, 25] (by decide +kernel)
theorem inX6_wearGap_RX6 : ∀ w ∈ wsX60, w ∈ wsX6_wearGap := az_inr [12, 13, 14] (by decide +kernel)
set_option maxHeartbeats 4000000 in
set_option maxRecDepth 100000 in
theorem kX6_wearGap (l : Launch) (g : az_G) (ax : Nat → Nat) (an : Nat → Nat) (au : Nat → Nat) (Y : va_W) (V : az_St) (o : Int32) (h : FX6_wearGap V = some o) : az_I l yX6_wearGap wsX6_wearGap ({ frames := 1, cells := 0, slots := 0, locals := 40 } : Room) [.ref (ax 0)] g (az_w6 g ax an au V Y) o (az_w6 g ax an au V Y) := by
  refine az_body (cc := cX6_wearGap) (maxL := 4) (ret := (some .int)) (Qc := fun A => az_QI g (az_w6 g ax an au V Y) o A) (by decide +kernel) rfl (Nat.le_of_ble_eq_true rfl) ?_
  intro p e s m args below meth c A hx hb hr hts hown hml hlocks hA hK hP hD hS ls hl
  have hl : lv_has ls 4 [(0, .ref (ax 0))] := hl
  unfold FX6_wearGap at h
  have hL17 : ∀ (n : Nat) (y1 : Int32) (y2 : Int32) (y3 : Int32) (H : Heap) (locs : List Loc) (ls : Array Slot), FX6_wearGap_L17 n V y1 y2 y3 = some o → va_P g.1 az_cl (az_w6 g ax an au V Y) H → va_D A (az_w6 g ax an au V Y) → va_S A s.heap H locs → lv_has ls 4 [(0, .ref (ax 0)), (1, .int y1), (2, .int y2), (3, .int y3)] → W p l e ({ frames := 1, cells := 0, slots := 0, locals := 40 } : Room) s m args below meth c H locs 0 0 (MQ below (az_QI g (az_w6 g ax an au V Y) o A) args s 0 0 A) (F0 m 17 ls []) := by
    intro n
    induction n with
    | zero => intro y1 y2 y3 H locs ls h; exact az_non h
    | succ n ih =>
      intro y1 y2 y3 H locs ls h hP hD hS hl
      rw [FX6_wearGap_L17_s] at h
      refine lv_iload_n hx hb dX6_wearGap_17 rfl (lv_at hl 3 rfl) ?_
      refine lv_aload_n hx hb dX6_wearGap_18 rfl (lv_at hl 0 rfl) ?_
      refine va_get (D := g.1) (ci := 6) (v := .ref (an 0)) (C := RX6) (T := TX6) (N := 3) hx hb hts inX6_wearGap_RX6 hown hK hP 0 rfl rfl 0 (Nat.le_of_ble_eq_true rfl) (hts _ (List.mem_of_getElem? (i := 1) rfl)) (fun _ h9 => h9) rfl dX6_wearGap_19 ?_
      refine va_get (D := g.1) (ci := 5) (v := .ref (an 1)) (C := RX5) (T := TX5) (N := 11) hx hb hts inX6_wearGap_RX5 hown hK hP 1 rfl rfl 0 (Nat.le_of_ble_eq_true rfl) (hts _ (List.mem_of_getElem? (i := 2) rfl)) (fun _ h9 => h9) rfl dX6_wearGap_22 ?_
      refine va_get (D := g.1) (ci := 3) (v := .int ((V 4) 0)) (C := RX3) (T := TX3) (N := 6) hx hb hts inX6_wearGap_RX3 hown hK hP 2 rfl rfl 4 (Nat.le_of_ble_eq_true rfl) (hts _ (List.mem_of_getElem? (i := 4) rfl)) (fun _ h9 => h9) rfl dX6_wearGap_25 ?_
      refine lv_icmp_ge (tgt := 71) hx hb dX6_wearGap_28 (by decide) (fun c28 => ?_) (fun c28 => ?_)
      · replace h := az_pos c28 h
        refine lv_iload_n hx hb dX6_wearGap_71 rfl (lv_at hl 2 rfl) ?_
        refine lv_iload_n hx hb dX6_wearGap_72 rfl (lv_at hl 1 rfl) ?_
        refine lv_isub hx hb dX6_wearGap_73 ?_
        have hP : va_P g.1 az_cl (az_w6 g ax an au V Y) _ := hP
        have hD : va_D A (az_w6 g ax an au V Y) := hD
        rw [← Option.some.inj h]
        exact az_iret hx hb hr hlocks hK hP hD hS dX6_wearGap_74
      · replace h := az_neg c28 h
        refine lv_iload_n hx hb dX6_wearGap_31 rfl (lv_at hl 1 rfl) ?_
        refine lv_aload_n hx hb dX6_wearGap_32 rfl (lv_at hl 0 rfl) ?_
        refine va_get (D := g.1) (ci := 6) (v := .ref (an 0)) (C := RX6) (T := TX6) (N := 3) hx hb hts inX6_wearGap_RX6 hown hK hP 0 rfl rfl 0 (Nat.le_of_ble_eq_true rfl) (hts _ (List.mem_of_getElem? (i := 1) rfl)) (fun _ h9 => h9) rfl dX6_wearGap_33 ?_
        refine va_get (D := g.1) (ci := 5) (v := .ref (an 1)) (C := RX5) (T := TX5) (N := 11) hx hb hts inX6_wearGap_RX5 hown hK hP 1 rfl rfl 0 (Nat.le_of_ble_eq_true rfl) (hts _ (List.mem_of_getElem? (i := 2) rfl)) (fun _ h9 => h9) rfl dX6_wearGap_36 ?_
        refine va_get (D := g.1) (ci := 3) (v := .ref (an 3)) (C := RX3) (T := TX3) (N := 6) hx hb hts inX6_wearGap_RX3 hown hK hP 2 rfl rfl 1 (Nat.le_of_ble_eq_true rfl) (hts _ (List.mem_of_getElem? (i := 3) rfl)) (fun _ h9 => h9) rfl dX6_wearGap_39 ?_
        refine lv_iload_n hx hb dX6_wearGap_42 rfl (lv_at hl 3 rfl) ?_
        obtain ⟨i43, h⟩ := az_ite h
        refine va_iald (D := g.1) (f := (V 1)) hx hb hK hP 4 0 rfl rfl (az_vin i43) dX6_wearGap_43 ?_
        refine va_mmin hx hb (hml.trans hl.1.symm) hown (hts _ (List.mem_of_getElem? (i := 5) rfl)) (hts _ (List.mem_of_getElem? (i := 6) rfl)) (hts _ (List.mem_of_getElem? (i := 7) rfl)) (hts _ (List.mem_of_getElem? (i := 8) rfl)) (Nat.le_of_ble_eq_true rfl) (Nat.le_of_ble_eq_true rfl) (Nat.zero_le _) (Nat.zero_le _) dX6_wearGap_44 ?_
        refine lv_topi (x := (if (V 1) y3.toNatClampNeg < y1 then (V 1) y3.toNatClampNeg else y1)) (fun z47 e47 => ?_)
        replace h := az_let e47 h
        refine lv_istore_n (lv' := [(1, .int z47), (0, .ref (ax 0)), (2, .int y2), (3, .int y3)]) hx hb dX6_wearGap_47 rfl hl (by decide) rfl (fun ls hl => ?_)
        refine lv_iload_n hx hb dX6_wearGap_48 rfl (lv_at hl 2 rfl) ?_
        refine lv_aload_n hx hb dX6_wearGap_49 rfl (lv_at hl 1 rfl) ?_
        refine va_get (D := g.1) (ci := 6) (v := .ref (an 0)) (C := RX6) (T := TX6) (N := 3) hx hb hts inX6_wearGap_RX6 hown hK hP 0 rfl rfl 0 (Nat.le_of_ble_eq_true rfl) (hts _ (List.mem_of_getElem? (i := 1) rfl)) (fun _ h9 => h9) rfl dX6_wearGap_50 ?_
        refine va_get (D := g.1) (ci := 5) (v := .ref (an 1)) (C := RX5) (T := TX5) (N := 11) hx hb hts inX6_wearGap_RX5 hown hK hP 1 rfl rfl 0 (Nat.le_of_ble_eq_true rfl) (hts _ (List.mem_of_getElem? (i := 2) rfl)) (fun _ h9 => h9) rfl dX6_wearGap_53 ?_
        refine va_get (D := g.1) (ci := 3) (v := .ref (an 3)) (C := RX3) (T := TX3) (N := 6) hx hb hts inX6_wearGap_RX3 hown hK hP 2 rfl rfl 1 (Nat.le_of_ble_eq_true rfl) (hts _ (List.mem_of_getElem? (i := 3) rfl)) (fun _ h9 => h9) rfl dX6_wearGap_56 ?_
        refine lv_iload_n hx hb dX6_wearGap_59 rfl (lv_at hl 3 rfl) ?_
        refine va_iald (D := g.1) (f := (V 1)) hx hb hK hP 4 0 rfl rfl (az_vin i43) dX6_wearGap_60 ?_
        refine va_mmax hx hb (hml.trans hl.1.symm) hown (hts _ (List.mem_of_getElem? (i := 9) rfl)) (hts _ (List.mem_of_getElem? (i := 10) rfl)) (hts _ (List.mem_of_getElem? (i := 7) rfl)) (hts _ (List.mem_of_getElem? (i := 11) rfl)) (Nat.le_of_ble_eq_true rfl) (Nat.le_of_ble_eq_true rfl) (Nat.zero_le _) (Nat.zero_le _) dX6_wearGap_61 ?_
        refine lv_topi (x := (if y2 < (V 1) y3.toNatClampNeg then (V 1) y3.toNatClampNeg else y2)) (fun z64 e64 => ?_)
        replace h := az_let e64 h
        refine lv_istore_n (lv' := [(2, .int z64), (1, .int z47), (0, .ref (ax 0)), (3, .int y3)]) hx hb dX6_wearGap_64 rfl hl (by decide) rfl (fun ls hl => ?_)
        refine lv_iinc (v := y3 + (1 : Int32)) (lv' := [(3, .int (y3 + (1 : Int32))), (2, .int z64), (1, .int z47), (0, .ref (ax 0))]) hx hb dX6_wearGap_65 hl (k := 3) rfl (rfl) (by decide) rfl (fun ls hl => ?_)
        refine lv_goto (tgt := 17) hx hb dX6_wearGap_68 (by decide) ?_
        have hP : va_P g.1 az_cl (az_w6 g ax an au V Y) _ := hP
        have hD : va_D A (az_w6 g ax an au V Y) := hD
        exact ih z47 z64 (y3 + (1 : Int32)) _ _ ls h hP hD hS (lv_sub hl [3, 2, 1, 0] rfl)
  refine lv_aload_n hx hb dX6_wearGap_0 rfl (lv_at hl 0 rfl) ?_
  refine va_get (D := g.1) (ci := 6) (v := .ref (an 0)) (C := RX6) (T := TX6) (N := 3) hx hb hts inX6_wearGap_RX6 hown hK hP 0 rfl rfl 0 (Nat.le_of_ble_eq_true rfl) (hts _ (List.mem_of_getElem? (i := 1) rfl)) (fun _ h9 => h9) rfl dX6_wearGap_1 ?_
  refine va_get (D := g.1) (ci := 5) (v := .ref (an 1)) (C := RX5) (T := TX5) (N := 11) hx hb hts inX6_wearGap_RX5 hown hK hP 1 rfl rfl 0 (Nat.le_of_ble_eq_true rfl) (hts _ (List.mem_of_getElem? (i := 2) rfl)) (fun _ h9 => h9) rfl dX6_wearGap_4 ?_
  refine va_get (D := g.1) (ci := 3) (v := .ref (an 3)) (C := RX3) (T := TX3) (N := 6) hx hb hts inX6_wearGap_RX3 hown hK hP 2 rfl rfl 1 (Nat.le_of_ble_eq_true rfl) (hts _ (List.mem_of_getElem? (i := 3) rfl)) (fun _ h9 => h9) rfl dX6_wearGap_7 ?_
  refine lv_iconst (v := (0 : Int32)) hx hb dX6_wearGap_10 (by decide) ?_
  refine va_iald (D := g.1) (f := (V 1)) hx hb hK hP 4 0 rfl rfl (az_vin (by decide +kernel)) dX6_wearGap_11 ?_
  refine lv_istore_n (lv' := [(1, .int ((V 1) (0 : Int32).toNatClampNeg)), (0, .ref (ax 0))]) hx hb dX6_wearGap_12 rfl hl (by decide) rfl (fun ls hl => ?_)
  refine lv_iload_n hx hb dX6_wearGap_13 rfl (lv_at hl 0 rfl) ?_
  refine lv_istore_n (lv' := [(2, .int ((V 1) (0 : Int32).toNatClampNeg)), (1, .int ((V 1) (0 : Int32).toNatClampNeg)), (0, .ref (ax 0))]) hx hb dX6_wearGap_14 rfl hl (by decide) rfl (fun ls hl => ?_)
  refine lv_iconst (v := (1 : Int32)) hx hb dX6_wearGap_15 (by decide) ?_
  refine lv_istore_n (lv' := [(3, .int (1 : Int32)), (2, .int ((V 1) (0 : Int32).toNatClampNeg)), (1, .int ((V 1) (0 : Int32).toNatClampNeg)), (0, .ref (ax 0))]) hx hb dX6_wearGap_16 rfl hl (by decide) rfl (fun ls hl => ?_)
  have hP : va_P g.1 az_cl (az_w6 g ax an au V Y) _ := hP
  have hD : va_D A (az_w6 g ax an au V Y) := hD
  exact hL17 az_fuel ((V 1) (0 : Int32).toNatClampNeg) ((V 1) (0 : Int32).toNatClampNeg) (1 : Int32) _ _ ls h hP hD hS (lv_sub hl [3, 2, 1, 0] rfl)

def FX6_undo (V : az_St) (T : az_St) (S : Nat → az_St) (hs : Nat → Int32) : Option (Nat × Int32 × (az_St) × (Nat → Int32)) := if hs 1 ≤ (0 : Int32) then ((FX6_checkState (0 : Int32)).bind (fun o15 => if o15 = 0 then ((FX1_restore S hs V).bind (fun o26 => some (0, o26.2 1, o26.1, o26.2))) else some (o15, (0 : Int32), V, hs))) else ((FX6_checkState (1 : Int32)).bind (fun o15 => if o15 = 0 then ((FX1_restore S hs V).bind (fun o26 => some (0, o26.2 1, o26.1, o26.2))) else some (o15, (0 : Int32), V, hs)))
theorem inX6_undo_RX1 : ∀ w ∈ wsX10, w ∈ wsX6_undo := az_inr [81, 82, 83] (by decide +kernel)
theorem inX6_undo_RX6 : ∀ w ∈ wsX60, w ∈ wsX6_undo := az_inr [78, 79, 80] (by decide +kernel)
set_option maxHeartbeats 4000000 in
set_option maxRecDepth 100000 in
theorem kX6_undo (l : Launch) (hst : l.stackTraces = false) (g : az_G) (sa : Nat → Nat) (ax : Nat → Nat) (an : Nat → Nat) (au : Nat → Nat) (aw : Nat → Nat → Nat) (V : az_St) (T : az_St) (S : Nat → az_St) (hs : Nat → Int32) (o : Nat × Int32 × (az_St) × (Nat → Int32)) (h : FX6_undo V T S hs = some o) : az_TI l yX6_undo wsX6_undo ({ frames := 7, cells := 1, slots := 6, locals := 164 } : Room) [.ref (ax 0)] g sa (az_w6 g ax an au V (az_cV g au T ++ az_cH g ax aw S hs)) o.1 o.2.1 (az_w6 g ax an au o.2.2.1 (az_cV g au T ++ az_cH g ax aw S o.2.2.2)) 1 := by
  refine az_bodyT (cc := cX6_undo) (maxL := 1) (ret := (some .int)) (mc := 1) (ms := 6) (Qc := fun A => az_QTI g (az_w6 g ax an au o.2.2.1 (az_cV g au T ++ az_cH g ax aw S o.2.2.2)) o.1 o.2.1 A) (XC := fun A => az_XT g (az_w6 g ax an au o.2.2.1 (az_cV g au T ++ az_cH g ax aw S o.2.2.2)) o.1 A) (by decide +kernel) rfl (Nat.le_of_ble_eq_true rfl) ?_
  intro p e s m args below meth c A hx hb hr hts hown hml hlocks hex hcx hA hK hP hD hS ls hl
  have hl : lv_has ls 1 [(0, .ref (ax 0))] := hl
  unfold FX6_undo at h
  refine lv_aload_n hx hb dX6_undo_0 rfl (lv_at hl 0 rfl) ?_
  refine va_get (D := g.1) (ci := 6) (v := .ref (ax 1)) (C := RX6) (T := TX6) (N := 3) hx hb hts inX6_undo_RX6 hown hK hP 0 rfl rfl 2 (Nat.le_of_ble_eq_true rfl) (hts _ (List.mem_of_getElem? (i := 1) rfl)) (fun _ h9 => h9) rfl dX6_undo_1 ?_
  refine va_get (D := g.1) (ci := 1) (v := .int (hs 1)) (C := RX1) (T := TX1) (N := 3) hx hb hts inX6_undo_RX1 hown hK hP 41 rfl rfl 2 (Nat.le_of_ble_eq_true rfl) (hts _ (List.mem_of_getElem? (i := 2) rfl)) (fun _ h9 => h9) rfl dX6_undo_4 ?_
  refine lv_if_le (tgt := 14) hx hb dX6_undo_7 (by decide) (fun c7 => ?_) (fun c7 => ?_)
  · replace h := az_pos c7 h
    refine lv_iconst (v := (0 : Int32)) hx hb dX6_undo_14 (by decide) ?_
    obtain ⟨o15, hc15, h⟩ := az_bnd h
    refine az_callST (As := [.int (0 : Int32)]) (rest := []) ⟨hx, hb, hml, hown, hts⟩ hl.1 (kX6_checkState l hst g sa (0 : Int32) o15 hc15) (va_cwS 1 hts gX6_undo_X6_checkState rfl rfl rfl (by decide +kernel) ⟨(Nat.le_of_ble_eq_true rfl), (Nat.le_of_ble_eq_true rfl)⟩) rfl hK hcx hP hS hA (Nat.le_of_ble_eq_true rfl) dX6_undo_15 ⟨(Nat.le_of_ble_eq_true rfl), (Nat.le_of_ble_eq_true rfl)⟩ rfl (fun n15 ce q9 H locs hP hS hce hcv hcl => ?_) (fun c15 H locs hP hS => ?_)
    · replace h := az_neg n15 h
      have hP : va_P g.1 az_cl (az_w6 g ax an au V (az_cV g au T ++ az_cH g ax aw S hs)) _ := hP
      have hD : va_D A (az_w6 g ax an au V (az_cV g au T ++ az_cH g ax aw S hs)) := hD
      rw [← Option.some.inj h]
      exact az_outT n15 hex hlocks hce hcv hcl hK hP hD hS (Nat.le_of_ble_eq_true rfl) (Nat.le_of_ble_eq_true rfl)
    replace h := az_pos c15 h
    refine lv_aload_n hx hb dX6_undo_18 rfl (lv_at hl 0 rfl) ?_
    refine va_get (D := g.1) (ci := 6) (v := .ref (ax 1)) (C := RX6) (T := TX6) (N := 3) hx hb hts inX6_undo_RX6 hown hK hP 0 rfl rfl 2 (Nat.le_of_ble_eq_true rfl) (hts _ (List.mem_of_getElem? (i := 1) rfl)) (fun _ h9 => h9) rfl dX6_undo_19 ?_
    refine lv_aload_n hx hb dX6_undo_22 rfl (lv_at hl 0 rfl) ?_
    refine va_get (D := g.1) (ci := 6) (v := .ref (an 0)) (C := RX6) (T := TX6) (N := 3) hx hb hts inX6_undo_RX6 hown hK hP 0 rfl rfl 0 (Nat.le_of_ble_eq_true rfl) (hts _ (List.mem_of_getElem? (i := 3) rfl)) (fun _ h9 => h9) rfl dX6_undo_23 ?_
    obtain ⟨o26, hc26, h⟩ := az_bnd h
    refine az_callPv (w2 := az_w6 g ax an au o26.1 (az_cV g au T ++ az_cH g ax aw S o26.2)) (As := [.ref (an 0)]) (rest := []) ⟨hx, hb, hml, hown, hts⟩ hl.1 (kX1_restore l g ax an aw S hs V o26 hc26) (cwV 1 hts gX6_undo_X1_restore rfl rfl rfl (by decide +kernel) ⟨(Nat.le_of_ble_eq_true rfl), (Nat.le_of_ble_eq_true rfl)⟩) rfl hK hP hD hS hA (az_pH (az_x ax an au) (az_cV g an V) (az_cV g au T) (az_cH g ax aw S hs)) (az_pH (az_x ax an au) (az_cV g an o26.1) (az_cV g au T) (az_cH g ax aw S o26.2)).symm 0 rfl rfl rfl (Nat.le_of_ble_eq_true rfl) dX6_undo_26 ⟨(Nat.le_of_ble_eq_true rfl), (Nat.le_of_ble_eq_true rfl)⟩ rfl (fun H locs hP hD hS => ?_)
    have hP : va_P g.1 az_cl (az_w6 g ax an au o26.1 (az_cV g au T ++ az_cH g ax aw S o26.2)) _ := hP
    have hD : va_D A (az_w6 g ax an au o26.1 (az_cV g au T ++ az_cH g ax aw S o26.2)) := hD
    refine lv_aload_n hx hb dX6_undo_29 rfl (lv_at hl 0 rfl) ?_
    refine va_get (D := g.1) (ci := 6) (v := .ref (ax 1)) (C := RX6) (T := TX6) (N := 3) hx hb hts inX6_undo_RX6 hown hK hP 0 rfl rfl 2 (Nat.le_of_ble_eq_true rfl) (hts _ (List.mem_of_getElem? (i := 1) rfl)) (fun _ h9 => h9) rfl dX6_undo_30 ?_
    refine va_get (D := g.1) (ci := 1) (v := .int (o26.2 1)) (C := RX1) (T := TX1) (N := 3) hx hb hts inX6_undo_RX1 hown hK hP 41 rfl rfl 2 (Nat.le_of_ble_eq_true rfl) (hts _ (List.mem_of_getElem? (i := 2) rfl)) (fun _ h9 => h9) rfl dX6_undo_33 ?_
    have hP : va_P g.1 az_cl (az_w6 g ax an au o26.1 (az_cV g au T ++ az_cH g ax aw S o26.2)) _ := hP
    have hD : va_D A (az_w6 g ax an au o26.1 (az_cV g au T ++ az_cH g ax aw S o26.2)) := hD
    rw [← Option.some.inj h]
    exact az_iretT hx hb hr hlocks hK hP hD hS dX6_undo_36 (Nat.le_of_ble_eq_true rfl) (Nat.le_of_ble_eq_true rfl)
  · replace h := az_neg c7 h
    refine lv_iconst (v := (1 : Int32)) hx hb dX6_undo_10 (by decide) ?_
    refine lv_goto (tgt := 15) hx hb dX6_undo_11 (by decide) ?_
    obtain ⟨o15, hc15, h⟩ := az_bnd h
    refine az_callST (As := [.int (1 : Int32)]) (rest := []) ⟨hx, hb, hml, hown, hts⟩ hl.1 (kX6_checkState l hst g sa (1 : Int32) o15 hc15) (va_cwS 1 hts gX6_undo_X6_checkState rfl rfl rfl (by decide +kernel) ⟨(Nat.le_of_ble_eq_true rfl), (Nat.le_of_ble_eq_true rfl)⟩) rfl hK hcx hP hS hA (Nat.le_of_ble_eq_true rfl) dX6_undo_15 ⟨(Nat.le_of_ble_eq_true rfl), (Nat.le_of_ble_eq_true rfl)⟩ rfl (fun n15 ce q9 H locs hP hS hce hcv hcl => ?_) (fun c15 H locs hP hS => ?_)
    · replace h := az_neg n15 h
      have hP : va_P g.1 az_cl (az_w6 g ax an au V (az_cV g au T ++ az_cH g ax aw S hs)) _ := hP
      have hD : va_D A (az_w6 g ax an au V (az_cV g au T ++ az_cH g ax aw S hs)) := hD
      rw [← Option.some.inj h]
      exact az_outT n15 hex hlocks hce hcv hcl hK hP hD hS (Nat.le_of_ble_eq_true rfl) (Nat.le_of_ble_eq_true rfl)
    replace h := az_pos c15 h
    refine lv_aload_n hx hb dX6_undo_18 rfl (lv_at hl 0 rfl) ?_
    refine va_get (D := g.1) (ci := 6) (v := .ref (ax 1)) (C := RX6) (T := TX6) (N := 3) hx hb hts inX6_undo_RX6 hown hK hP 0 rfl rfl 2 (Nat.le_of_ble_eq_true rfl) (hts _ (List.mem_of_getElem? (i := 1) rfl)) (fun _ h9 => h9) rfl dX6_undo_19 ?_
    refine lv_aload_n hx hb dX6_undo_22 rfl (lv_at hl 0 rfl) ?_
    refine va_get (D := g.1) (ci := 6) (v := .ref (an 0)) (C := RX6) (T := TX6) (N := 3) hx hb hts inX6_undo_RX6 hown hK hP 0 rfl rfl 0 (Nat.le_of_ble_eq_true rfl) (hts _ (List.mem_of_getElem? (i := 3) rfl)) (fun _ h9 => h9) rfl dX6_undo_23 ?_
    obtain ⟨o26, hc26, h⟩ := az_bnd h
    refine az_callPv (w2 := az_w6 g ax an au o26.1 (az_cV g au T ++ az_cH g ax aw S o26.2)) (As := [.ref (an 0)]) (rest := []) ⟨hx, hb, hml, hown, hts⟩ hl.1 (kX1_restore l g ax an aw S hs V o26 hc26) (cwV 1 hts gX6_undo_X1_restore rfl rfl rfl (by decide +kernel) ⟨(Nat.le_of_ble_eq_true rfl), (Nat.le_of_ble_eq_true rfl)⟩) rfl hK hP hD hS hA (az_pH (az_x ax an au) (az_cV g an V) (az_cV g au T) (az_cH g ax aw S hs)) (az_pH (az_x ax an au) (az_cV g an o26.1) (az_cV g au T) (az_cH g ax aw S o26.2)).symm 0 rfl rfl rfl (Nat.le_of_ble_eq_true rfl) dX6_undo_26 ⟨(Nat.le_of_ble_eq_true rfl), (Nat.le_of_ble_eq_true rfl)⟩ rfl (fun H locs hP hD hS => ?_)
    have hP : va_P g.1 az_cl (az_w6 g ax an au o26.1 (az_cV g au T ++ az_cH g ax aw S o26.2)) _ := hP
    have hD : va_D A (az_w6 g ax an au o26.1 (az_cV g au T ++ az_cH g ax aw S o26.2)) := hD
    refine lv_aload_n hx hb dX6_undo_29 rfl (lv_at hl 0 rfl) ?_
    refine va_get (D := g.1) (ci := 6) (v := .ref (ax 1)) (C := RX6) (T := TX6) (N := 3) hx hb hts inX6_undo_RX6 hown hK hP 0 rfl rfl 2 (Nat.le_of_ble_eq_true rfl) (hts _ (List.mem_of_getElem? (i := 1) rfl)) (fun _ h9 => h9) rfl dX6_undo_30 ?_
    refine va_get (D := g.1) (ci := 1) (v := .int (o26.2 1)) (C := RX1) (T := TX1) (N := 3) hx hb hts inX6_undo_RX1 hown hK hP 41 rfl rfl 2 (Nat.le_of_ble_eq_true rfl) (hts _ (List.mem_of_getElem? (i := 2) rfl)) (fun _ h9 => h9) rfl dX6_undo_33 ?_
    have hP : va_P g.1 az_cl (az_w6 g ax an au o26.1 (az_cV g au T ++ az_cH g ax aw S o26.2)) _ := hP
    have hD : va_D A (az_w6 g ax an au o26.1 (az_cV g au T ++ az_cH g ax aw S o26.2)) := hD
    rw [← Option.some.inj h]
    exact az_iretT hx hb hr hlocks hK hP hD hS dX6_undo_36 (Nat.le_of_ble_eq_true rfl) (Nat.le_of_ble_eq_true rfl)
