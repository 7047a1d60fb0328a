/-! 21.parts: printed by wip/whole/gen.py out of the printed instructions -/
def FX2_begin (V : az_St) : Option ((Nat → Int32) × (Nat → Int32)) := (FJ7_fill_53178 6 (fun _ => (V 11)) (0 : Int32)).bind (fun o5 => (FJ7_fill_53178 6 (fun _ => (V 12)) (-1 : Int32)).bind (fun o13 => some (o5, o13)))
theorem inX2_begin_RX2 : ∀ w ∈ wsX20, w ∈ wsX2_begin := az_inr [7, 8] (by decide +kernel)
set_option maxHeartbeats 4000000 in
set_option maxRecDepth 100000 in
theorem kX2_begin (l : Launch) (g : az_G) (ad : Nat → Nat) (V : az_St) (o : (Nat → Int32) × (Nat → Int32)) (h : FX2_begin V = some o) : az_V l yX2_begin wsX2_begin ({ frames := 1, cells := 0, slots := 0, locals := 23 } : Room) [.ref (ad 13)] g (az_cR g ad V) (az_cR g ad (va_up (va_up V 11 o.1) 12 o.2)) := by
  refine az_body (cc := cX2_begin) (maxL := 1) (ret := none) (Qc := fun A => az_QV g (az_cR g ad (va_up (va_up V 11 o.1) 12 o.2)) A) (by decide +kernel) rfl (Nat.le_of_ble_eq_true rfl) ?_
  intro p e s m args below meth c A hx hb hr hts hown hml hlocks hA hK hP hD hS ls hl
  have hl : lv_has ls 1 [(0, .ref (ad 13))] := hl
  unfold FX2_begin at h
  refine lv_aload_n hx hb dX2_begin_0 rfl (lv_at hl 0 rfl) ?_
  refine va_get (D := g.1) (ci := 2) (v := .ref (ad 14)) (C := RX2) (T := TX2) (N := 2) hx hb hts inX2_begin_RX2 hown hK hP 0 rfl rfl 0 (Nat.le_of_ble_eq_true rfl) (hts _ (List.mem_of_getElem? (i := 1) rfl)) (fun _ h9 => h9) rfl dX2_begin_1 ?_
  refine lv_iconst (v := (0 : Int32)) hx hb dX2_begin_4 (by decide) ?_
  obtain ⟨o5, hc5, h⟩ := az_bnd h
  refine az_callSv (w2 := az_cR g ad (va_up V 11 o5)) (As := [.ref (ad 14), .int (0 : Int32)]) (rest := []) ⟨hx, hb, hml, hown, hts⟩ hl.1 (kJ7_fill_53178 l g (ad 14) 6 (fun _ => (V 11)) (0 : Int32) o5 hc5) (va_cwS 2 hts gX2_begin_J7_fill_53178 rfl rfl rfl (by decide +kernel) ⟨Nat.le_of_ble_eq_true rfl, Nat.le_of_ble_eq_true rfl⟩) rfl hK hP hD hS hA [1] [0, 2] [0, 2, 1] rfl rfl rfl rfl rfl (by decide) rfl rfl rfl (Nat.le_of_ble_eq_true rfl) dX2_begin_5 ⟨Nat.zero_le _, Nat.zero_le _⟩ rfl (fun H locs hP hD hS => ?_)
  refine lv_aload_n hx hb dX2_begin_8 rfl (lv_at hl 0 rfl) ?_
  refine va_get (D := g.1) (ci := 2) (v := .ref (ad 15)) (C := RX2) (T := TX2) (N := 2) hx hb hts inX2_begin_RX2 hown hK hP 0 rfl rfl 1 (Nat.le_of_ble_eq_true rfl) (hts _ (List.mem_of_getElem? (i := 2) rfl)) (fun _ h9 => h9) rfl dX2_begin_9 ?_
  refine lv_iconst (v := (-1 : Int32)) hx hb dX2_begin_12 (by decide) ?_
  obtain ⟨o13, hc13, h⟩ := az_bnd h
  refine az_callSv (w2 := az_cR g ad (va_up (va_up V 11 o5) 12 o13)) (As := [.ref (ad 15), .int (-1 : Int32)]) (rest := []) ⟨hx, hb, hml, hown, hts⟩ hl.1 (kJ7_fill_53178 l g (ad 15) 6 (fun _ => (V 12)) (-1 : Int32) o13 hc13) (va_cwS 2 hts gX2_begin_J7_fill_53178 rfl rfl rfl (by decide +kernel) ⟨Nat.le_of_ble_eq_true rfl, Nat.le_of_ble_eq_true rfl⟩) rfl hK hP hD hS hA [2] [0, 1] [0, 1, 2] rfl rfl rfl rfl rfl (by decide) rfl rfl rfl (Nat.le_of_ble_eq_true rfl) dX2_begin_13 ⟨Nat.zero_le _, Nat.zero_le _⟩ rfl (fun H locs hP hD hS => ?_)
  have hP : va_P g.1 az_cl (az_cR g ad (va_up (va_up V 11 o5) 12 o13)) _ := hP
  have hD : va_D A (az_cR g ad (va_up (va_up V 11 o5) 12 o13)) := hD
  rw [← Option.some.inj h]
  exact az_vret hx hb hr hlocks hK hP hD hS dX2_begin_16

def FX2_copyFrom (V : az_St) (O : az_St) : Option ((Nat → Int32) × (Nat → Int32)) := some (va_cpy (O 11) (V 11) (0 : Int32).toNatClampNeg (0 : Int32).toNatClampNeg (6 : Int32).toNatClampNeg, va_cpy (O 12) (V 12) (0 : Int32).toNatClampNeg (0 : Int32).toNatClampNeg (6 : Int32).toNatClampNeg)
theorem inX2_copyFrom_RX2 : ∀ w ∈ wsX20, w ∈ wsX2_copyFrom := az_inr [7, 8] (by decide +kernel)
set_option maxHeartbeats 4000000 in
set_option maxRecDepth 100000 in
theorem kX2_copyFrom (l : Launch) (g : az_G) (ad : Nat → Nat) (ad2 : Nat → Nat) (V : az_St) (O : az_St) (o : (Nat → Int32) × (Nat → Int32)) (h : FX2_copyFrom V O = some o) : az_V l yX2_copyFrom wsX2_copyFrom ({ frames := 1, cells := 0, slots := 0, locals := 100 } : Room) [.ref (ad 13), .ref (ad2 13)] g ((az_cR g ad V ++ az_cR g ad2 O)) ((az_cR g ad (va_up (va_up V 11 o.1) 12 o.2) ++ az_cR g ad2 O)) := by
  refine az_body (cc := cX2_copyFrom) (maxL := 2) (ret := none) (Qc := fun A => az_QV g ((az_cR g ad (va_up (va_up V 11 o.1) 12 o.2) ++ az_cR g ad2 O)) A) (by decide +kernel) rfl (Nat.le_of_ble_eq_true rfl) ?_
  intro p e s m args below meth c A hx hb hr hts hown hml hlocks hA hK hP hD hS ls hl
  have hl : lv_has ls 2 [(0, .ref (ad 13)), (1, .ref (ad2 13))] := hl
  unfold FX2_copyFrom at h
  refine lv_aload_n hx hb dX2_copyFrom_0 rfl (lv_at hl 1 rfl) ?_
  refine va_get (D := g.1) (ci := 2) (v := .ref (ad2 14)) (C := RX2) (T := TX2) (N := 2) hx hb hts inX2_copyFrom_RX2 hown hK hP 3 rfl rfl 0 (Nat.le_of_ble_eq_true rfl) (hts _ (List.mem_of_getElem? (i := 1) rfl)) (fun _ h9 => h9) rfl dX2_copyFrom_1 ?_
  refine lv_iconst (v := (0 : Int32)) hx hb dX2_copyFrom_4 (by decide) ?_
  refine lv_aload_n hx hb dX2_copyFrom_5 rfl (lv_at hl 0 rfl) ?_
  refine va_get (D := g.1) (ci := 2) (v := .ref (ad 14)) (C := RX2) (T := TX2) (N := 2) hx hb hts inX2_copyFrom_RX2 hown hK hP 0 rfl rfl 0 (Nat.le_of_ble_eq_true rfl) (hts _ (List.mem_of_getElem? (i := 1) rfl)) (fun _ h9 => h9) rfl dX2_copyFrom_6 ?_
  refine lv_iconst (v := (0 : Int32)) hx hb dX2_copyFrom_9 (by decide) ?_
  refine lv_bipush (v := (6 : Int32)) hx hb dX2_copyFrom_10 (by decide) ?_
  refine va_copyi (D := g.1) (f := (O 11)) (g := (V 11)) (ty := .int) hx hb (hml.trans hl.1.symm) hown (hts _ (List.mem_of_getElem? (i := 2) rfl)) (hts _ (List.mem_of_getElem? (i := 3) rfl)) (hts _ (List.mem_of_getElem? (i := 4) rfl)) (hts _ (List.mem_of_getElem? (i := 5) rfl)) hK hP hD hS 4 1 0 0 rfl rfl rfl rfl rfl (by decide) (by decide) (by decide) (Nat.le_of_ble_eq_true rfl) (Nat.le_of_ble_eq_true rfl) (fun _ _ => rfl) (Nat.le_of_ble_eq_true rfl) (by decide +kernel) dX2_copyFrom_12 (fun H locs hP hD hS => ?_)
  have hP : va_P g.1 az_cl ((az_cR g ad (va_up V 11 (va_cpy (O 11) (V 11) (0 : Int32).toNatClampNeg (0 : Int32).toNatClampNeg (6 : Int32).toNatClampNeg)) ++ az_cR g ad2 O)) _ := hP
  have hD : va_D A ((az_cR g ad (va_up V 11 (va_cpy (O 11) (V 11) (0 : Int32).toNatClampNeg (0 : Int32).toNatClampNeg (6 : Int32).toNatClampNeg)) ++ az_cR g ad2 O)) := hD
  refine lv_aload_n hx hb dX2_copyFrom_15 rfl (lv_at hl 1 rfl) ?_
  refine va_get (D := g.1) (ci := 2) (v := .ref (ad2 15)) (C := RX2) (T := TX2) (N := 2) hx hb hts inX2_copyFrom_RX2 hown hK hP 3 rfl rfl 1 (Nat.le_of_ble_eq_true rfl) (hts _ (List.mem_of_getElem? (i := 6) rfl)) (fun _ h9 => h9) rfl dX2_copyFrom_16 ?_
  refine lv_iconst (v := (0 : Int32)) hx hb dX2_copyFrom_19 (by decide) ?_
  refine lv_aload_n hx hb dX2_copyFrom_20 rfl (lv_at hl 0 rfl) ?_
  refine va_get (D := g.1) (ci := 2) (v := .ref (ad 15)) (C := RX2) (T := TX2) (N := 2) hx hb hts inX2_copyFrom_RX2 hown hK hP 0 rfl rfl 1 (Nat.le_of_ble_eq_true rfl) (hts _ (List.mem_of_getElem? (i := 6) rfl)) (fun _ h9 => h9) rfl dX2_copyFrom_21 ?_
  refine lv_iconst (v := (0 : Int32)) hx hb dX2_copyFrom_24 (by decide) ?_
  refine lv_bipush (v := (6 : Int32)) hx hb dX2_copyFrom_25 (by decide) ?_
  refine va_copyi (D := g.1) (f := (O 12)) (g := (V 12)) (ty := .int) hx hb (hml.trans hl.1.symm) hown (hts _ (List.mem_of_getElem? (i := 2) rfl)) (hts _ (List.mem_of_getElem? (i := 3) rfl)) (hts _ (List.mem_of_getElem? (i := 4) rfl)) (hts _ (List.mem_of_getElem? (i := 5) rfl)) hK hP hD hS 5 2 0 0 rfl rfl rfl rfl rfl (by decide) (by decide) (by decide) (Nat.le_of_ble_eq_true rfl) (Nat.le_of_ble_eq_true rfl) (fun _ _ => rfl) (Nat.le_of_ble_eq_true rfl) (by decide +kernel) dX2_copyFrom_27 (fun H locs hP hD hS => ?_)
  have hP : va_P g.1 az_cl ((az_cR g ad (va_up (va_up V 11 (va_cpy (O 11) (V 11) (0 : Int32).toNatClampNeg (0 : Int32).toNatClampNeg (6 : Int32).toNatClampNeg)) 12 (va_cpy (O 12) (V 12) (0 : Int32).toNatClampNeg (0 : Int32).toNatClampNeg (6 : Int32).toNatClampNeg)) ++ az_cR g ad2 O)) _ := hP
  have hD : va_D A ((az_cR g ad (va_up (va_up V 11 (va_cpy (O 11) (V 11) (0 : Int32).toNatClampNeg (0 : Int32).toNatClampNeg (6 : Int32).toNatClampNeg)) 12 (va_cpy (O 12) (V 12) (0 : Int32).toNatClampNeg (0 : Int32).toNatClampNeg (6 : Int32).toNatClampNeg)) ++ az_cR g ad2 O)) := hD
  have hP : va_P g.1 az_cl ((az_cR g ad (va_up (va_up V 11 (va_cpy (O 11) (V 11) (0 : Int32).toNatClampNeg (0 : Int32).toNatClampNeg (6 : Int32).toNatClampNeg)) 12 (va_cpy (O 12) (V 12) (0 : Int32).toNatClampNeg (0 : Int32).toNatClampNeg (6 : Int32).toNatClampNeg)) ++ az_cR g ad2 O)) _ := hP
  have hD : va_D A ((az_cR g ad (va_up (va_up V 11 (va_cpy (O 11) (V 11) (0 : Int32).toNatClampNeg (0 : Int32).toNatClampNeg (6 : Int32).toNatClampNeg)) 12 (va_cpy (O 12) (V 12) (0 : Int32).toNatClampNeg (0 : Int32).toNatClampNeg (6 : Int32).toNatClampNeg)) ++ az_cR g ad2 O)) := hD
  rw [← Option.some.inj h]
  exact az_vret hx hb hr hlocks hK hP hD hS dX2_copyFrom_30

def FX2_letIn (V : az_St) (x1 : Int32) (x2 : Int32) : Option ((Nat → Int32) × (Nat → Int32)) := if az_in x1 6 = true then some (upd (V 11) x1.toNatClampNeg (1 : Int32), upd (V 12) x1.toNatClampNeg x2) else none
theorem inX2_letIn_RX2 : ∀ w ∈ wsX20, w ∈ wsX2_letIn := az_inr [3, 4] (by decide +kernel)
set_option maxHeartbeats 4000000 in
set_option maxRecDepth 100000 in
theorem kX2_letIn (l : Launch) (g : az_G) (ad : Nat → Nat) (V : az_St) (x1 : Int32) (x2 : Int32) (o : (Nat → Int32) × (Nat → Int32)) (h : FX2_letIn V x1 x2 = some o) : az_V l yX2_letIn wsX2_letIn ({ frames := 0, cells := 0, slots := 0, locals := 0 } : Room) [.ref (ad 13), .int x1, .int x2] g (az_cR g ad V) (az_cR g ad (va_up (va_up V 11 o.1) 12 o.2)) := by
  refine az_body (cc := cX2_letIn) (maxL := 3) (ret := none) (Qc := fun A => az_QV g (az_cR g ad (va_up (va_up V 11 o.1) 12 o.2)) A) (by decide +kernel) rfl (Nat.le_of_ble_eq_true rfl) ?_
  intro p e s m args below meth c A hx hb hr hts hown hml hlocks hA hK hP hD hS ls hl
  have hl : lv_has ls 3 [(0, .ref (ad 13)), (1, .int x1), (2, .int x2)] := hl
  unfold FX2_letIn at h
  refine lv_aload_n hx hb dX2_letIn_0 rfl (lv_at hl 0 rfl) ?_
  refine va_get (D := g.1) (ci := 2) (v := .ref (ad 14)) (C := RX2) (T := TX2) (N := 2) hx hb hts inX2_letIn_RX2 hown hK hP 0 rfl rfl 0 (Nat.le_of_ble_eq_true rfl) (hts _ (List.mem_of_getElem? (i := 1) rfl)) (fun _ h9 => h9) rfl dX2_letIn_1 ?_
  refine lv_iload_n hx hb dX2_letIn_4 rfl (lv_at hl 1 rfl) ?_
  refine lv_iconst (v := (1 : Int32)) hx hb dX2_letIn_5 (by decide) ?_
  obtain ⟨i6, h⟩ := az_ite h
  refine va_iast (D := g.1) (f := (V 11)) hx hb hK hP hD hS 1 0 rfl rfl (az_vin i6) dX2_letIn_6 (fun H locs hP hD hS => ?_)
  have hP : va_P g.1 az_cl (az_cR g ad (va_up V 11 (upd (V 11) x1.toNatClampNeg (1 : Int32)))) _ := hP
  have hD : va_D A (az_cR g ad (va_up V 11 (upd (V 11) x1.toNatClampNeg (1 : Int32)))) := hD
  refine lv_aload_n hx hb dX2_letIn_7 rfl (lv_at hl 0 rfl) ?_
  refine va_get (D := g.1) (ci := 2) (v := .ref (ad 15)) (C := RX2) (T := TX2) (N := 2) hx hb hts inX2_letIn_RX2 hown hK hP 0 rfl rfl 1 (Nat.le_of_ble_eq_true rfl) (hts _ (List.mem_of_getElem? (i := 2) rfl)) (fun _ h9 => h9) rfl dX2_letIn_8 ?_
  refine lv_iload_n hx hb dX2_letIn_11 rfl (lv_at hl 1 rfl) ?_
  refine lv_iload_n hx hb dX2_letIn_12 rfl (lv_at hl 2 rfl) ?_
  refine va_iast (D := g.1) (f := (V 12)) hx hb hK hP hD hS 2 0 rfl rfl (az_vin i6) dX2_letIn_13 (fun H locs hP hD hS => ?_)
  have hP : va_P g.1 az_cl (az_cR g ad (va_up (va_up V 11 (upd (V 11) x1.toNatClampNeg (1 : Int32))) 12 (upd (V 12) x1.toNatClampNeg x2))) _ := hP
  have hD : va_D A (az_cR g ad (va_up (va_up V 11 (upd (V 11) x1.toNatClampNeg (1 : Int32))) 12 (upd (V 12) x1.toNatClampNeg x2))) := hD
  have hP : va_P g.1 az_cl (az_cR g ad (va_up (va_up V 11 (upd (V 11) x1.toNatClampNeg (1 : Int32))) 12 (upd (V 12) x1.toNatClampNeg x2))) _ := hP
  have hD : va_D A (az_cR g ad (va_up (va_up V 11 (upd (V 11) x1.toNatClampNeg (1 : Int32))) 12 (upd (V 12) x1.toNatClampNeg x2))) := hD
  rw [← Option.some.inj h]
  exact az_vret hx hb hr hlocks hK hP hD hS dX2_letIn_14

def FX2_sendOut (V : az_St) (x1 : Int32) (x2 : Int32) : Option ((Nat → Int32) × (Nat → Int32)) := if az_in x1 6 = true then some (upd (V 11) x1.toNatClampNeg x2, upd (V 12) x1.toNatClampNeg (-1 : Int32)) else none
theorem inX2_sendOut_RX2 : ∀ w ∈ wsX20, w ∈ wsX2_sendOut := az_inr [3, 4] (by decide +kernel)
set_option maxHeartbeats 4000000 in
set_option maxRecDepth 100000 in
theorem kX2_sendOut (l : Launch) (g : az_G) (ad : Nat → Nat) (V : az_St) (x1 : Int32) (x2 : Int32) (o : (Nat → Int32) × (Nat → Int32)) (h : FX2_sendOut V x1 x2 = some o) : az_V l yX2_sendOut wsX2_sendOut ({ frames := 0, cells := 0, slots := 0, locals := 0 } : Room) [.ref (ad 13), .int x1, .int x2] g (az_cR g ad V) (az_cR g ad (va_up (va_up V 11 o.1) 12 o.2)) := by
  refine az_body (cc := cX2_sendOut) (maxL := 3) (ret := none) (Qc := fun A => az_QV g (az_cR g ad (va_up (va_up V 11 o.1) 12 o.2)) A) (by decide +kernel) rfl (Nat.le_of_ble_eq_true rfl) ?_
  intro p e s m args below meth c A hx hb hr hts hown hml hlocks hA hK hP hD hS ls hl
  have hl : lv_has ls 3 [(0, .ref (ad 13)), (1, .int x1), (2, .int x2)] := hl
  unfold FX2_sendOut at h
  refine lv_aload_n hx hb dX2_sendOut_0 rfl (lv_at hl 0 rfl) ?_
  refine va_get (D := g.1) (ci := 2) (v := .ref (ad 14)) (C := RX2) (T := TX2) (N := 2) hx hb hts inX2_sendOut_RX2 hown hK hP 0 rfl rfl 0 (Nat.le_of_ble_eq_true rfl) (hts _ (List.mem_of_getElem? (i := 1) rfl)) (fun _ h9 => h9) rfl dX2_sendOut_1 ?_
  refine lv_iload_n hx hb dX2_sendOut_4 rfl (lv_at hl 1 rfl) ?_
  refine lv_iload_n hx hb dX2_sendOut_5 rfl (lv_at hl 2 rfl) ?_
  obtain ⟨i6, h⟩ := az_ite h
  refine va_iast (D := g.1) (f := (V 11)) hx hb hK hP hD hS 1 0 rfl rfl (az_vin i6) dX2_sendOut_6 (fun H locs hP hD hS => ?_)
  have hP : va_P g.1 az_cl (az_cR g ad (va_up V 11 (upd (V 11) x1.toNatClampNeg x2))) _ := hP
  have hD : va_D A (az_cR g ad (va_up V 11 (upd (V 11) x1.toNatClampNeg x2))) := hD
  refine lv_aload_n hx hb dX2_sendOut_7 rfl (lv_at hl 0 rfl) ?_
  refine va_get (D := g.1) (ci := 2) (v := .ref (ad 15)) (C := RX2) (T := TX2) (N := 2) hx hb hts inX2_sendOut_RX2 hown hK hP 0 rfl rfl 1 (Nat.le_of_ble_eq_true rfl) (hts _ (List.mem_of_getElem? (i := 2) rfl)) (fun _ h9 => h9) rfl dX2_sendOut_8 ?_
  refine lv_iload_n hx hb dX2_sendOut_11 rfl (lv_at hl 1 rfl) ?_
  refine lv_iconst (v := (-1 : Int32)) hx hb dX2_sendOut_12 (by decide) ?_
  refine va_iast (D := g.1) (f := (V 12)) hx hb hK hP hD hS 2 0 rfl rfl (az_vin i6) dX2_sendOut_13 (fun H locs hP hD hS => ?_)
  have hP : va_P g.1 az_cl (az_cR g ad (va_up (va_up V 11 (upd (V 11) x1.toNatClampNeg x2)) 12 (upd (V 12) x1.toNatClampNeg (-1 : Int32)))) _ := hP
  have hD : va_D A (az_cR g ad (va_up (va_up V 11 (upd (V 11) x1.toNatClampNeg x2)) 12 (upd (V 12) x1.toNatClampNeg (-1 : Int32)))) := hD
  have hP : va_P g.1 az_cl (az_cR g ad (va_up (va_up V 11 (upd (V 11) x1.toNatClampNeg x2)) 12 (upd (V 12) x1.toNatClampNeg (-1 : Int32)))) _ := hP
  have hD : va_D A (az_cR g ad (va_up (va_up V 11 (upd (V 11) x1.toNatClampNeg x2)) 12 (upd (V 12) x1.toNatClampNeg (-1 : Int32)))) := hD
  rw [← Option.some.inj h]
  exact az_vret hx hb hr hlocks hK hP hD hS dX2_sendOut_14

def FX2_isInside (V : az_St) (x1 : Int32) : Option (Int32) := if az_in x1 6 = true then if (V 11) x1.toNatClampNeg = (1 : Int32) then (some ((1 : Int32))) else (some ((0 : Int32))) else none
theorem inX2_isInside_RX2 : ∀ w ∈ wsX20, w ∈ wsX2_isInside := az_inr [2, 3] (by decide +kernel)
set_option maxHeartbeats 4000000 in
set_option maxRecDepth 100000 in
theorem kX2_isInside (l : Launch) (g : az_G) (ad : Nat → Nat) (V : az_St) (x1 : Int32) (o : Int32) (h : FX2_isInside V x1 = some o) : az_I l yX2_isInside wsX2_isInside ({ frames := 0, cells := 0, slots := 0, locals := 0 } : Room) [.ref (ad 13), .int x1] g (az_cR g ad V) o (az_cR g ad V) := by
  refine az_body (cc := cX2_isInside) (maxL := 2) (ret := (some .boolean)) (Qc := fun A => az_QI g (az_cR g ad V) o A) (by decide +kernel) rfl (Nat.le_of_ble_eq_true rfl) ?_
  intro p e s m args below meth c A hx hb hr hts hown hml hlocks hA hK hP hD hS ls hl
  have hl : lv_has ls 2 [(0, .ref (ad 13)), (1, .int x1)] := hl
  unfold FX2_isInside at h
  refine lv_aload_n hx hb dX2_isInside_0 rfl (lv_at hl 0 rfl) ?_
  refine va_get (D := g.1) (ci := 2) (v := .ref (ad 14)) (C := RX2) (T := TX2) (N := 2) hx hb hts inX2_isInside_RX2 hown hK hP 0 rfl rfl 0 (Nat.le_of_ble_eq_true rfl) (hts _ (List.mem_of_getElem? (i := 1) rfl)) (fun _ h9 => h9) rfl dX2_isInside_1 ?_
  refine lv_iload_n hx hb dX2_isInside_4 rfl (lv_at hl 1 rfl) ?_
  obtain ⟨i5, h⟩ := az_ite h
  refine va_iald (D := g.1) (f := (V 11)) hx hb hK hP 1 0 rfl rfl (az_vin i5) dX2_isInside_5 ?_
  refine lv_iconst (v := (1 : Int32)) hx hb dX2_isInside_6 (by decide) ?_
  refine lv_icmp_ne (tgt := 14) hx hb dX2_isInside_7 (by decide) (fun c7 => ?_) (fun c7 => ?_)
  · replace h := az_neg c7 h
    refine lv_iconst (v := (0 : Int32)) hx hb dX2_isInside_14 (by decide) ?_
    have hP : va_P g.1 az_cl (az_cR g ad V) _ := hP
    have hD : va_D A (az_cR g ad V) := hD
    rw [← Option.some.inj h]
    exact az_zret hx hb hr hlocks rfl hK hP hD hS dX2_isInside_15
  · replace h := az_pos c7 h
    refine lv_iconst (v := (1 : Int32)) hx hb dX2_isInside_10 (by decide) ?_
    refine lv_goto (tgt := 15) hx hb dX2_isInside_11 (by decide) ?_
    have hP : va_P g.1 az_cl (az_cR g ad V) _ := hP
    have hD : va_D A (az_cR g ad V) := hD
    rw [← Option.some.inj h]
    exact az_zret hx hb hr hlocks rfl hK hP hD hS dX2_isInside_15

def FX2_isStalled (V : az_St) (x1 : Int32) (x2 : Int32) : Option (Int32) := (FX2_isInside V x1).bind (fun o2 => if o2 = (0 : Int32) then (some ((0 : Int32))) else (if az_in x1 6 = true then if (V 12) x1.toNatClampNeg = x2 then (some ((0 : Int32))) else (some ((1 : Int32))) else none))
theorem inX2_isStalled_RX2 : ∀ w ∈ wsX20, w ∈ wsX2_isStalled := az_inr [8, 9] (by decide +kernel)
set_option maxHeartbeats 4000000 in
set_option maxRecDepth 100000 in
theorem kX2_isStalled (l : Launch) (g : az_G) (ad : Nat → Nat) (V : az_St) (x1 : Int32) (x2 : Int32) (o : Int32) (h : FX2_isStalled V x1 x2 = some o) : az_I l yX2_isStalled wsX2_isStalled ({ frames := 1, cells := 0, slots := 0, locals := 21 } : Room) [.ref (ad 13), .int x1, .int x2] g (az_cR g ad V) o (az_cR g ad V) := by
  refine az_body (cc := cX2_isStalled) (maxL := 3) (ret := (some .boolean)) (Qc := fun A => az_QI g (az_cR g ad V) o A) (by decide +kernel) rfl (Nat.le_of_ble_eq_true rfl) ?_
  intro p e s m args below meth c A hx hb hr hts hown hml hlocks hA hK hP hD hS ls hl
  have hl : lv_has ls 3 [(0, .ref (ad 13)), (1, .int x1), (2, .int x2)] := hl
  unfold FX2_isStalled at h
  refine lv_aload_n hx hb dX2_isStalled_0 rfl (lv_at hl 0 rfl) ?_
  refine lv_iload_n hx hb dX2_isStalled_1 rfl (lv_at hl 1 rfl) ?_
  obtain ⟨o2, hc2, h⟩ := az_bnd h
  refine az_callVi (w2 := az_cR g ad V) (As := [.int x1]) (rest := []) ⟨hx, hb, hml, hown, hts⟩ hl.1 (kX2_isInside l g ad V x1 o2 hc2) (cwV 1 hts gX2_isStalled_X2_isInside rfl rfl rfl (by decide +kernel) ⟨Nat.le_of_ble_eq_true rfl, Nat.le_of_ble_eq_true rfl⟩) rfl hK hP hD hS hA [0, 1, 2] [] [0, 1, 2] rfl rfl rfl rfl rfl (by decide) rfl rfl rfl 0 rfl rfl rfl (Nat.le_of_ble_eq_true rfl) dX2_isStalled_2 ⟨Nat.zero_le _, Nat.zero_le _⟩ rfl (fun H locs hP hD hS => ?_)
  refine lv_if_eq (tgt := 22) hx hb dX2_isStalled_5 (by decide) (fun c5 => ?_) (fun c5 => ?_)
  · replace h := az_pos c5 h
    refine lv_iconst (v := (0 : Int32)) hx hb dX2_isStalled_22 (by decide) ?_
    have hP : va_P g.1 az_cl (az_cR g ad V) _ := hP
    have hD : va_D A (az_cR g ad V) := hD
    rw [← Option.some.inj h]
    exact az_zret hx hb hr hlocks rfl hK hP hD hS dX2_isStalled_23
  · replace h := az_neg c5 h
    refine lv_aload_n hx hb dX2_isStalled_8 rfl (lv_at hl 0 rfl) ?_
    refine va_get (D := g.1) (ci := 2) (v := .ref (ad 15)) (C := RX2) (T := TX2) (N := 2) hx hb hts inX2_isStalled_RX2 hown hK hP 0 rfl rfl 1 (Nat.le_of_ble_eq_true rfl) (hts _ (List.mem_of_getElem? (i := 1) rfl)) (fun _ h9 => h9) rfl dX2_isStalled_9 ?_
    refine lv_iload_n hx hb dX2_isStalled_12 rfl (lv_at hl 1 rfl) ?_
    obtain ⟨i13, h⟩ := az_ite h
    refine va_iald (D := g.1) (f := (V 12)) hx hb hK hP 2 0 rfl rfl (az_vin i13) dX2_isStalled_13 ?_
    refine lv_iload_n hx hb dX2_isStalled_14 rfl (lv_at hl 2 rfl) ?_
    refine lv_icmp_eq (tgt := 22) hx hb dX2_isStalled_15 (by decide) (fun c15 => ?_) (fun c15 => ?_)
    · replace h := az_pos c15 h
      refine lv_iconst (v := (0 : Int32)) hx hb dX2_isStalled_22 (by decide) ?_
      have hP : va_P g.1 az_cl (az_cR g ad V) _ := hP
      have hD : va_D A (az_cR g ad V) := hD
      rw [← Option.some.inj h]
      exact az_zret hx hb hr hlocks rfl hK hP hD hS dX2_isStalled_23
    · replace h := az_neg c15 h
      refine lv_iconst (v := (1 : Int32)) hx hb dX2_isStalled_18 (by decide) ?_
      refine lv_goto (tgt := 23) hx hb dX2_isStalled_19 (by decide) ?_
      have hP : va_P g.1 az_cl (az_cR g ad V) _ := hP
      have hD : va_D A (az_cR g ad V) := hD
      rw [← Option.some.inj h]
      exact az_zret hx hb hr hlocks rfl hK hP hD hS dX2_isStalled_23

def FX2_stalledMask_L4 : Nat → az_St → Int32 → Int32 → Int32 → Option (Int32)
  | 0, _, _, _, _ => none
  | n + 1, V, x1, y2, y3 => if (6 : Int32) ≤ y3 then (some (y2)) else ((FX2_isStalled V y3 x1).bind (fun o13 => if o13 = (0 : Int32) then (FX2_stalledMask_L4 n V x1 y2 (y3 + (1 : Int32))) else (FX2_stalledMask_L4 n V x1 (y2 ||| ((1 : Int32) <<< (y3 &&& 31))) (y3 + (1 : Int32)))))
theorem FX2_stalledMask_L4_s (n : Nat) (V : az_St) (x1 : Int32) (y2 : Int32) (y3 : Int32) : FX2_stalledMask_L4 (n + 1) V x1 y2 y3 = (if (6 : Int32) ≤ y3 then (some (y2)) else ((FX2_isStalled V y3 x1).bind (fun o13 => if o13 = (0 : Int32) then (FX2_stalledMask_L4 n V x1 y2 (y3 + (1 : Int32))) else (FX2_stalledMask_L4 n V x1 (y2 ||| ((1 : Int32) <<< (y3 &&& 31))) (y3 + (1 : Int32)))))) := rfl
def FX2_stalledMask (V : az_St) (x1 : Int32) : Option (Int32) := FX2_stalledMask_L4 az_fuel V x1 (0 : Int32) (0 : Int32)
set_option maxHeartbeats 4000000 in
set_option maxRecDepth 100000 in
theorem kX2_stalledMask (l : Launch) (g : az_G) (ad : Nat → Nat) (V : az_St) (x1 : Int32) (o : Int32) (h : FX2_stalledMask V x1 = some o) : az_I l yX2_stalledMask wsX2_stalledMask ({ frames := 2, cells := 0, slots := 0, locals := 43 } : Room) [.ref (ad 13), .int x1] g (az_cR g ad V) o (az_cR g ad V) := by
  refine az_body (cc := cX2_stalledMask) (maxL := 4) (ret := (some .int)) (Qc := fun A => az_QI g (az_cR g ad V) o A) (by decide +kernel) rfl (Nat.le_of_ble_eq_true rfl) ?_
  intro p e s m args below meth c A hx hb hr hts hown hml hlocks hA hK hP hD hS ls hl
  have hl : lv_has ls 4 [(0, .ref (ad 13)), (1, .int x1)] := hl
  unfold FX2_stalledMask at h
  have hL4 : ∀ (n : Nat) (y2 : Int32) (y3 : Int32) (H : Heap) (locs : List Loc) (ls : Array Slot), FX2_stalledMask_L4 n V x1 y2 y3 = some o → va_P g.1 az_cl (az_cR g ad V) H → va_D A (az_cR g ad V) → va_S A s.heap H locs → lv_has ls 4 [(0, .ref (ad 13)), (1, .int x1), (2, .int y2), (3, .int y3)] → W p l e ({ frames := 2, cells := 0, slots := 0, locals := 43 } : Room) s m args below meth c H locs 0 0 (MQ below (az_QI g (az_cR g ad V) o A) args s 0 0 A) (F0 m 4 ls []) := by
    intro n
    induction n with
    | zero => intro y2 y3 H locs ls h; exact az_non h
    | succ n ih =>
      intro y2 y3 H locs ls h hP hD hS hl
      rw [FX2_stalledMask_L4_s] at h
      refine lv_iload_n hx hb dX2_stalledMask_4 rfl (lv_at hl 3 rfl) ?_
      refine lv_bipush (v := (6 : Int32)) hx hb dX2_stalledMask_5 (by decide) ?_
      refine lv_icmp_ge (tgt := 31) hx hb dX2_stalledMask_7 (by decide) (fun c7 => ?_) (fun c7 => ?_)
      · replace h := az_pos c7 h
        refine lv_iload_n hx hb dX2_stalledMask_31 rfl (lv_at hl 2 rfl) ?_
        have hP : va_P g.1 az_cl (az_cR g ad V) _ := hP
        have hD : va_D A (az_cR g ad V) := hD
        rw [← Option.some.inj h]
        exact az_iret hx hb hr hlocks hK hP hD hS dX2_stalledMask_32
      · replace h := az_neg c7 h
        refine lv_aload_n hx hb dX2_stalledMask_10 rfl (lv_at hl 0 rfl) ?_
        refine lv_iload_n hx hb dX2_stalledMask_11 rfl (lv_at hl 3 rfl) ?_
        refine lv_iload_n hx hb dX2_stalledMask_12 rfl (lv_at hl 1 rfl) ?_
        obtain ⟨o13, hc13, h⟩ := az_bnd h
        refine az_callVi (w2 := az_cR g ad V) (As := [.int y3, .int x1]) (rest := []) ⟨hx, hb, hml, hown, hts⟩ hl.1 (kX2_isStalled l g ad V y3 x1 o13 hc13) (cwV 2 hts gX2_stalledMask_X2_isStalled rfl rfl rfl (by decide +kernel) ⟨Nat.le_of_ble_eq_true rfl, Nat.le_of_ble_eq_true rfl⟩) rfl hK hP hD hS hA [0, 1, 2] [] [0, 1, 2] rfl rfl rfl rfl rfl (by decide) rfl rfl rfl 0 rfl rfl rfl (Nat.le_of_ble_eq_true rfl) dX2_stalledMask_13 ⟨Nat.zero_le _, Nat.zero_le _⟩ rfl (fun H locs hP hD hS => ?_)
        refine lv_if_eq (tgt := 25) hx hb dX2_stalledMask_16 (by decide) (fun c16 => ?_) (fun c16 => ?_)
        · replace h := az_pos c16 h
          refine lv_iinc (v := y3 + (1 : Int32)) (lv' := [(3, .int (y3 + (1 : Int32))), (0, .ref (ad 13)), (1, .int x1), (2, .int y2)]) hx hb dX2_stalledMask_25 hl (k := 3) rfl (rfl) (by decide) rfl (fun ls hl => ?_)
          refine lv_goto (tgt := 4) hx hb dX2_stalledMask_28 (by decide) ?_
          have hP : va_P g.1 az_cl (az_cR g ad V) _ := hP
          have hD : va_D A (az_cR g ad V) := hD
          exact ih y2 (y3 + (1 : Int32)) _ _ ls h hP hD hS (lv_sub hl [1, 2, 3, 0] rfl)
        · replace h := az_neg c16 h
          refine lv_iload_n hx hb dX2_stalledMask_19 rfl (lv_at hl 2 rfl) ?_
          refine lv_iconst (v := (1 : Int32)) hx hb dX2_stalledMask_20 (by decide) ?_
          refine lv_iload_n hx hb dX2_stalledMask_21 rfl (lv_at hl 3 rfl) ?_
          refine lv_ishl hx hb dX2_stalledMask_22 ?_
          refine lv_ior hx hb dX2_stalledMask_23 ?_
          refine lv_istore_n (lv' := [(2, .int (y2 ||| ((1 : Int32) <<< (y3 &&& 31)))), (0, .ref (ad 13)), (1, .int x1), (3, .int y3)]) hx hb dX2_stalledMask_24 rfl hl (by decide) rfl (fun ls hl => ?_)
          refine lv_iinc (v := y3 + (1 : Int32)) (lv' := [(3, .int (y3 + (1 : Int32))), (2, .int (y2 ||| ((1 : Int32) <<< (y3 &&& 31)))), (0, .ref (ad 13)), (1, .int x1)]) hx hb dX2_stalledMask_25 hl (k := 3) rfl (rfl) (by decide) rfl (fun ls hl => ?_)
          refine lv_goto (tgt := 4) hx hb dX2_stalledMask_28 (by decide) ?_
          have hP : va_P g.1 az_cl (az_cR g ad V) _ := hP
          have hD : va_D A (az_cR g ad V) := hD
          exact ih (y2 ||| ((1 : Int32) <<< (y3 &&& 31))) (y3 + (1 : Int32)) _ _ ls h hP hD hS (lv_sub hl [2, 3, 1, 0] rfl)
  refine lv_iconst (v := (0 : Int32)) hx hb dX2_stalledMask_0 (by decide) ?_
  refine lv_istore_n (lv' := [(2, .int (0 : Int32)), (0, .ref (ad 13)), (1, .int x1)]) hx hb dX2_stalledMask_1 rfl hl (by decide) rfl (fun ls hl => ?_)
  refine lv_iconst (v := (0 : Int32)) hx hb dX2_stalledMask_2 (by decide) ?_
  refine lv_istore_n (lv' := [(3, .int (0 : Int32)), (2, .int (0 : Int32)), (0, .ref (ad 13)), (1, .int x1)]) hx hb dX2_stalledMask_3 rfl hl (by decide) rfl (fun ls hl => ?_)
  have hP : va_P g.1 az_cl (az_cR g ad V) _ := hP
  have hD : va_D A (az_cR g ad V) := hD
  exact hL4 az_fuel (0 : Int32) (0 : Int32) _ _ ls h hP hD hS (lv_sub hl [2, 3, 1, 0] rfl)

def FX2_advancesWithout_L5 : Nat → az_St → Int32 → Int32 → Int32 → Int32 → Option (Int32)
  | 0, _, _, _, _, _ => none
  | n + 1, V, x1, x2, y3, y4 => if (6 : Int32) ≤ y4 then (some (y3)) else (if y4 = x1 then (FX2_advancesWithout_L5 n V x1 x2 y3 (y4 + (1 : Int32))) else ((FX2_isInside V y4).bind (fun o21 => if o21 = (0 : Int32) then (FX2_advancesWithout_L5 n V x1 x2 y3 (y4 + (1 : Int32))) else ((FX2_isStalled V y4 x2).bind (fun o32 => if o32 = (0 : Int32) then (FX2_advancesWithout_L5 n V x1 x2 (if (1 : Int32) < y3 then (1 : Int32) else y3) (y4 + (1 : Int32))) else (FX2_advancesWithout_L5 n V x1 x2 (if (0 : Int32) < y3 then (0 : Int32) else y3) (y4 + (1 : Int32))))))))
theorem FX2_advancesWithout_L5_s (n : Nat) (V : az_St) (x1 : Int32) (x2 : Int32) (y3 : Int32) (y4 : Int32) : FX2_advancesWithout_L5 (n + 1) V x1 x2 y3 y4 = (if (6 : Int32) ≤ y4 then (some (y3)) else (if y4 = x1 then (FX2_advancesWithout_L5 n V x1 x2 y3 (y4 + (1 : Int32))) else ((FX2_isInside V y4).bind (fun o21 => if o21 = (0 : Int32) then (FX2_advancesWithout_L5 n V x1 x2 y3 (y4 + (1 : Int32))) else ((FX2_isStalled V y4 x2).bind (fun o32 => if o32 = (0 : Int32) then (FX2_advancesWithout_L5 n V x1 x2 (if (1 : Int32) < y3 then (1 : Int32) else y3) (y4 + (1 : Int32))) else (FX2_advancesWithout_L5 n V x1 x2 (if (0 : Int32) < y3 then (0 : Int32) else y3) (y4 + (1 : Int32))))))))) := rfl
def FX2_advancesWithout (V : az_St) (x1 : Int32) (x2 : Int32) : Option (Int32) := FX2_advancesWithout_L5 az_fuel V x1 x2 (2 : Int32) (0 : Int32)
set_option maxHeartbeats 4000000 in
set_option maxRecDepth 100000 in
theorem kX2_advancesWithout (l : Launch) (g : az_G) (ad : Nat → Nat) (V : az_St) (x1 : Int32) (x2 : Int32) (o : Int32) (h : FX2_advancesWithout V x1 x2 = some o) : az_I l yX2_advancesWithout wsX2_advancesWithout ({ frames := 2, cells := 0, slots := 0, locals := 43 } : Room) [.ref (ad 13), .int x1, .int x2] g (az_cR g ad V) o (az_cR g ad V) := by
  refine az_body (cc := cX2_advancesWithout) (maxL := 5) (ret := (some .int)) (Qc := fun A => az_QI g (az_cR g ad V) o A) (by decide +kernel) rfl (Nat.le_of_ble_eq_true rfl) ?_
  intro p e s m args below meth c A hx hb hr hts hown hml hlocks hA hK hP hD hS ls hl
  have hl : lv_has ls 5 [(0, .ref (ad 13)), (1, .int x1), (2, .int x2)] := hl
  unfold FX2_advancesWithout at h
  have hL5 : ∀ (n : Nat) (y3 : Int32) (y4 : Int32) (H : Heap) (locs : List Loc) (ls : Array Slot), FX2_advancesWithout_L5 n V x1 x2 y3 y4 = some o → va_P g.1 az_cl (az_cR g ad V) H → va_D A (az_cR g ad V) → va_S A s.heap H locs → lv_has ls 5 [(0, .ref (ad 13)), (1, .int x1), (2, .int x2), (3, .int y3), (4, .int y4)] → W p l e ({ frames := 2, cells := 0, slots := 0, locals := 43 } : Room) s m args below meth c H locs 0 0 (MQ below (az_QI g (az_cR g ad V) o A) args s 0 0 A) (F0 m 5 ls []) := by
    intro n
    induction n with
    | zero => intro y3 y4 H locs ls h; exact az_non h
    | succ n ih =>
      intro y3 y4 H locs ls h hP hD hS hl
      rw [FX2_advancesWithout_L5_s] at h
      refine lv_iload hx hb dX2_advancesWithout_5 (lv_at hl 4 rfl) ?_
      refine lv_bipush (v := (6 : Int32)) hx hb dX2_advancesWithout_7 (by decide) ?_
      refine lv_icmp_ge (tgt := 53) hx hb dX2_advancesWithout_9 (by decide) (fun c9 => ?_) (fun c9 => ?_)
      · replace h := az_pos c9 h
        refine lv_iload_n hx hb dX2_advancesWithout_53 rfl (lv_at hl 3 rfl) ?_
        have hP : va_P g.1 az_cl (az_cR g ad V) _ := hP
        have hD : va_D A (az_cR g ad V) := hD
        rw [← Option.some.inj h]
        exact az_iret hx hb hr hlocks hK hP hD hS dX2_advancesWithout_54
      · replace h := az_neg c9 h
        refine lv_iload hx hb dX2_advancesWithout_12 (lv_at hl 4 rfl) ?_
        refine lv_iload_n hx hb dX2_advancesWithout_14 rfl (lv_at hl 1 rfl) ?_
        refine lv_icmp_eq (tgt := 47) hx hb dX2_advancesWithout_15 (by decide) (fun c15 => ?_) (fun c15 => ?_)
        · replace h := az_pos c15 h
          refine lv_iinc (v := y4 + (1 : Int32)) (lv' := [(4, .int (y4 + (1 : Int32))), (0, .ref (ad 13)), (1, .int x1), (2, .int x2), (3, .int y3)]) hx hb dX2_advancesWithout_47 hl (k := 4) rfl (rfl) (by decide) rfl (fun ls hl => ?_)
          refine lv_goto (tgt := 5) hx hb dX2_advancesWithout_50 (by decide) ?_
          have hP : va_P g.1 az_cl (az_cR g ad V) _ := hP
          have hD : va_D A (az_cR g ad V) := hD
          exact ih y3 (y4 + (1 : Int32)) _ _ ls h hP hD hS (lv_sub hl [1, 2, 3, 4, 0] rfl)
        · replace h := az_neg c15 h
          refine lv_aload_n hx hb dX2_advancesWithout_18 rfl (lv_at hl 0 rfl) ?_
          refine lv_iload hx hb dX2_advancesWithout_19 (lv_at hl 4 rfl) ?_
          obtain ⟨o21, hc21, h⟩ := az_bnd h
          refine az_callVi (w2 := az_cR g ad V) (As := [.int y4]) (rest := []) ⟨hx, hb, hml, hown, hts⟩ hl.1 (kX2_isInside l g ad V y4 o21 hc21) (cwV 1 hts gX2_advancesWithout_X2_isInside rfl rfl rfl (by decide +kernel) ⟨Nat.le_of_ble_eq_true rfl, Nat.le_of_ble_eq_true rfl⟩) rfl hK hP hD hS hA [0, 1, 2] [] [0, 1, 2] rfl rfl rfl rfl rfl (by decide) rfl rfl rfl 0 rfl rfl rfl (Nat.le_of_ble_eq_true rfl) dX2_advancesWithout_21 ⟨Nat.zero_le _, Nat.zero_le _⟩ rfl (fun H locs hP hD hS => ?_)
          refine lv_if_eq (tgt := 47) hx hb dX2_advancesWithout_24 (by decide) (fun c24 => ?_) (fun c24 => ?_)
          · replace h := az_pos c24 h
            refine lv_iinc (v := y4 + (1 : Int32)) (lv' := [(4, .int (y4 + (1 : Int32))), (0, .ref (ad 13)), (1, .int x1), (2, .int x2), (3, .int y3)]) hx hb dX2_advancesWithout_47 hl (k := 4) rfl (rfl) (by decide) rfl (fun ls hl => ?_)
            refine lv_goto (tgt := 5) hx hb dX2_advancesWithout_50 (by decide) ?_
            have hP : va_P g.1 az_cl (az_cR g ad V) _ := hP
            have hD : va_D A (az_cR g ad V) := hD
            exact ih y3 (y4 + (1 : Int32)) _ _ ls h hP hD hS (lv_sub hl [1, 2, 3, 4, 0] rfl)
          · replace h := az_neg c24 h
            refine lv_iload_n hx hb dX2_advancesWithout_27 rfl (lv_at hl 3 rfl) ?_
            refine lv_aload_n hx hb dX2_advancesWithout_28 rfl (lv_at hl 0 rfl) ?_
            refine lv_iload hx hb dX2_advancesWithout_29 (lv_at hl 4 rfl) ?_
            refine lv_iload_n hx hb dX2_advancesWithout_31 rfl (lv_at hl 2 rfl) ?_
            obtain ⟨o32, hc32, h⟩ := az_bnd h
            refine az_callVi (w2 := az_cR g ad V) (As := [.int y4, .int x2]) (rest := [.int y3]) ⟨hx, hb, hml, hown, hts⟩ hl.1 (kX2_isStalled l g ad V y4 x2 o32 hc32) (cwV 2 hts gX2_advancesWithout_X2_isStalled rfl rfl rfl (by decide +kernel) ⟨Nat.le_of_ble_eq_true rfl, Nat.le_of_ble_eq_true rfl⟩) rfl hK hP hD hS hA [0, 1, 2] [] [0, 1, 2] rfl rfl rfl rfl rfl (by decide) rfl rfl rfl 0 rfl rfl rfl (Nat.le_of_ble_eq_true rfl) dX2_advancesWithout_32 ⟨Nat.zero_le _, Nat.zero_le _⟩ rfl (fun H locs hP hD hS => ?_)
            refine lv_if_eq (tgt := 42) hx hb dX2_advancesWithout_35 (by decide) (fun c35 => ?_) (fun c35 => ?_)
            · replace h := az_pos c35 h
              refine lv_iconst (v := (1 : Int32)) hx hb dX2_advancesWithout_42 (by decide) ?_
              refine va_mmin hx hb (hml.trans hl.1.symm) hown (hts _ (List.mem_of_getElem? (i := 1) rfl)) (hts _ (List.mem_of_getElem? (i := 2) rfl)) (hts _ (List.mem_of_getElem? (i := 3) rfl)) (hts _ (List.mem_of_getElem? (i := 4) rfl)) (Nat.le_of_ble_eq_true rfl) (Nat.le_of_ble_eq_true rfl) (Nat.zero_le _) (Nat.zero_le _) dX2_advancesWithout_43 ?_
              refine lv_istore_n (lv' := [(3, .int (if (1 : Int32) < y3 then (1 : Int32) else y3)), (0, .ref (ad 13)), (1, .int x1), (2, .int x2), (4, .int y4)]) hx hb dX2_advancesWithout_46 rfl hl (by decide) rfl (fun ls hl => ?_)
              refine lv_iinc (v := y4 + (1 : Int32)) (lv' := [(4, .int (y4 + (1 : Int32))), (3, .int (if (1 : Int32) < y3 then (1 : Int32) else y3)), (0, .ref (ad 13)), (1, .int x1), (2, .int x2)]) hx hb dX2_advancesWithout_47 hl (k := 4) rfl (rfl) (by decide) rfl (fun ls hl => ?_)
              refine lv_goto (tgt := 5) hx hb dX2_advancesWithout_50 (by decide) ?_
              have hP : va_P g.1 az_cl (az_cR g ad V) _ := hP
              have hD : va_D A (az_cR g ad V) := hD
              exact ih (if (1 : Int32) < y3 then (1 : Int32) else y3) (y4 + (1 : Int32)) _ _ ls h hP hD hS (lv_sub hl [2, 3, 4, 1, 0] rfl)
            · replace h := az_neg c35 h
              refine lv_iconst (v := (0 : Int32)) hx hb dX2_advancesWithout_38 (by decide) ?_
              refine lv_goto (tgt := 43) hx hb dX2_advancesWithout_39 (by decide) ?_
              refine va_mmin hx hb (hml.trans hl.1.symm) hown (hts _ (List.mem_of_getElem? (i := 1) rfl)) (hts _ (List.mem_of_getElem? (i := 2) rfl)) (hts _ (List.mem_of_getElem? (i := 3) rfl)) (hts _ (List.mem_of_getElem? (i := 4) rfl)) (Nat.le_of_ble_eq_true rfl) (Nat.le_of_ble_eq_true rfl) (Nat.zero_le _) (Nat.zero_le _) dX2_advancesWithout_43 ?_
              refine lv_istore_n (lv' := [(3, .int (if (0 : Int32) < y3 then (0 : Int32) else y3)), (0, .ref (ad 13)), (1, .int x1), (2, .int x2), (4, .int y4)]) hx hb dX2_advancesWithout_46 rfl hl (by decide) rfl (fun ls hl => ?_)
              refine lv_iinc (v := y4 + (1 : Int32)) (lv' := [(4, .int (y4 + (1 : Int32))), (3, .int (if (0 : Int32) < y3 then (0 : Int32) else y3)), (0, .ref (ad 13)), (1, .int x1), (2, .int x2)]) hx hb dX2_advancesWithout_47 hl (k := 4) rfl (rfl) (by decide) rfl (fun ls hl => ?_)
              refine lv_goto (tgt := 5) hx hb dX2_advancesWithout_50 (by decide) ?_
              have hP : va_P g.1 az_cl (az_cR g ad V) _ := hP
              have hD : va_D A (az_cR g ad V) := hD
              exact ih (if (0 : Int32) < y3 then (0 : Int32) else y3) (y4 + (1 : Int32)) _ _ ls h hP hD hS (lv_sub hl [2, 3, 4, 1, 0] rfl)
  refine lv_iconst (v := (2 : Int32)) hx hb dX2_advancesWithout_0 (by decide) ?_
  refine lv_istore_n (lv' := [(3, .int (2 : Int32)), (0, .ref (ad 13)), (1, .int x1), (2, .int x2)]) hx hb dX2_advancesWithout_1 rfl hl (by decide) rfl (fun ls hl => ?_)
  refine lv_iconst (v := (0 : Int32)) hx hb dX2_advancesWithout_2 (by decide) ?_
  refine lv_istore (lv' := [(4, .int (0 : Int32)), (3, .int (2 : Int32)), (0, .ref (ad 13)), (1, .int x1), (2, .int x2)]) hx hb dX2_advancesWithout_3 hl (by decide) rfl (fun ls hl => ?_)
  have hP : va_P g.1 az_cl (az_cR g ad V) _ := hP
  have hD : va_D A (az_cR g ad V) := hD
  exact hL5 az_fuel (2 : Int32) (0 : Int32) _ _ ls h hP hD hS (lv_sub hl [2, 3, 4, 1, 0] rfl)

def FX3_begin (V : az_St) (x1 : Int32) (x2 : Int32) : Option ((Nat → Int32) × (Nat → Int32) × (Nat → Int32) × (Nat → Int32) × (Nat → Int32)) := (FJ7_fill_53178 10 (fun _ => (V 0)) (0 : Int32)).bind (fun o5 => (FJ7_fill_53178 10 (fun _ => (V 1)) (0 : Int32)).bind (fun o13 => (FJ7_fill_53178 10 (fun _ => (V 2)) (0 : Int32)).bind (fun o21 => (FJ7_fill_53178 2 (fun _ => (V 3)) (-1 : Int32)).bind (fun o29 => some (o5, o13, o21, o29, upd (upd (V 4) 0 x1) 1 x2)))))
theorem inX3_begin_RX3 : ∀ w ∈ wsX30, w ∈ wsX3_begin := az_inr [11, 12, 13, 14, 15, 16] (by decide +kernel)
set_option maxHeartbeats 4000000 in
set_option maxRecDepth 100000 in
theorem kX3_begin (l : Launch) (g : az_G) (ad : Nat → Nat) (V : az_St) (x1 : Int32) (x2 : Int32) (o : (Nat → Int32) × (Nat → Int32) × (Nat → Int32) × (Nat → Int32) × (Nat → Int32)) (h : FX3_begin V x1 x2 = some o) : az_V l yX3_begin wsX3_begin ({ frames := 1, cells := 0, slots := 0, locals := 23 } : Room) [.ref (ad 1), .int x1, .int x2] g (az_cS g ad V) (az_cS g ad (va_up (va_up (va_up (va_up (va_up V 0 o.1) 1 o.2.1) 2 o.2.2.1) 3 o.2.2.2.1) 4 o.2.2.2.2)) := by
  refine az_body (cc := cX3_begin) (maxL := 3) (ret := none) (Qc := fun A => az_QV g (az_cS g ad (va_up (va_up (va_up (va_up (va_up V 0 o.1) 1 o.2.1) 2 o.2.2.1) 3 o.2.2.2.1) 4 o.2.2.2.2)) A) (by decide +kernel) rfl (Nat.le_of_ble_eq_true rfl) ?_
  intro p e s m args below meth c A hx hb hr hts hown hml hlocks hA hK hP hD hS ls hl
  have hl : lv_has ls 3 [(0, .ref (ad 1)), (1, .int x1), (2, .int x2)] := hl
  unfold FX3_begin at h
  refine lv_aload_n hx hb dX3_begin_0 rfl (lv_at hl 0 rfl) ?_
  refine va_get (D := g.1) (ci := 3) (v := .ref (ad 2)) (C := RX3) (T := TX3) (N := 6) hx hb hts inX3_begin_RX3 hown hK hP 0 rfl rfl 0 (Nat.le_of_ble_eq_true rfl) (hts _ (List.mem_of_getElem? (i := 1) rfl)) (fun _ h9 => h9) rfl dX3_begin_1 ?_
  refine lv_iconst (v := (0 : Int32)) hx hb dX3_begin_4 (by decide) ?_
  obtain ⟨o5, hc5, h⟩ := az_bnd h
  refine az_callSv (w2 := az_cS g ad (va_up V 0 o5)) (As := [.ref (ad 2), .int (0 : Int32)]) (rest := []) ⟨hx, hb, hml, hown, hts⟩ hl.1 (kJ7_fill_53178 l g (ad 2) 10 (fun _ => (V 0)) (0 : Int32) o5 hc5) (va_cwS 2 hts gX3_begin_J7_fill_53178 rfl rfl rfl (by decide +kernel) ⟨Nat.le_of_ble_eq_true rfl, Nat.le_of_ble_eq_true rfl⟩) rfl hK hP hD hS hA [1] [0, 2, 3, 4] [0, 4, 1, 2, 3] rfl rfl rfl rfl rfl (by decide) rfl rfl rfl (Nat.le_of_ble_eq_true rfl) dX3_begin_5 ⟨Nat.zero_le _, Nat.zero_le _⟩ rfl (fun H locs hP hD hS => ?_)
  refine lv_aload_n hx hb dX3_begin_8 rfl (lv_at hl 0 rfl) ?_
  refine va_get (D := g.1) (ci := 3) (v := .ref (ad 3)) (C := RX3) (T := TX3) (N := 6) hx hb hts inX3_begin_RX3 hown hK hP 0 rfl rfl 1 (Nat.le_of_ble_eq_true rfl) (hts _ (List.mem_of_getElem? (i := 2) rfl)) (fun _ h9 => h9) rfl dX3_begin_9 ?_
  refine lv_iconst (v := (0 : Int32)) hx hb dX3_begin_12 (by decide) ?_
  obtain ⟨o13, hc13, h⟩ := az_bnd h
  refine az_callSv (w2 := az_cS g ad (va_up (va_up V 0 o5) 1 o13)) (As := [.ref (ad 3), .int (0 : Int32)]) (rest := []) ⟨hx, hb, hml, hown, hts⟩ hl.1 (kJ7_fill_53178 l g (ad 3) 10 (fun _ => (V 1)) (0 : Int32) o13 hc13) (va_cwS 2 hts gX3_begin_J7_fill_53178 rfl rfl rfl (by decide +kernel) ⟨Nat.le_of_ble_eq_true rfl, Nat.le_of_ble_eq_true rfl⟩) rfl hK hP hD hS hA [2] [0, 1, 3, 4] [0, 1, 4, 2, 3] rfl rfl rfl rfl rfl (by decide) rfl rfl rfl (Nat.le_of_ble_eq_true rfl) dX3_begin_13 ⟨Nat.zero_le _, Nat.zero_le _⟩ rfl (fun H locs hP hD hS => ?_)
  refine lv_aload_n hx hb dX3_begin_16 rfl (lv_at hl 0 rfl) ?_
  refine va_get (D := g.1) (ci := 3) (v := .ref (ad 4)) (C := RX3) (T := TX3) (N := 6) hx hb hts inX3_begin_RX3 hown hK hP 0 rfl rfl 2 (Nat.le_of_ble_eq_true rfl) (hts _ (List.mem_of_getElem? (i := 3) rfl)) (fun _ h9 => h9) rfl dX3_begin_17 ?_
  refine lv_iconst (v := (0 : Int32)) hx hb dX3_begin_20 (by decide) ?_
  obtain ⟨o21, hc21, h⟩ := az_bnd h
  refine az_callSv (w2 := az_cS g ad (va_up (va_up (va_up V 0 o5) 1 o13) 2 o21)) (As := [.ref (ad 4), .int (0 : Int32)]) (rest := []) ⟨hx, hb, hml, hown, hts⟩ hl.1 (kJ7_fill_53178 l g (ad 4) 10 (fun _ => (V 2)) (0 : Int32) o21 hc21) (va_cwS 2 hts gX3_begin_J7_fill_53178 rfl rfl rfl (by decide +kernel) ⟨Nat.le_of_ble_eq_true rfl, Nat.le_of_ble_eq_true rfl⟩) rfl hK hP hD hS hA [3] [0, 1, 2, 4] [0, 1, 2, 4, 3] rfl rfl rfl rfl rfl (by decide) rfl rfl rfl (Nat.le_of_ble_eq_true rfl) dX3_begin_21 ⟨Nat.zero_le _, Nat.zero_le _⟩ rfl (fun H locs hP hD hS => ?_)
  refine lv_aload_n hx hb dX3_begin_24 rfl (lv_at hl 0 rfl) ?_
  refine va_get (D := g.1) (ci := 3) (v := .ref (ad 5)) (C := RX3) (T := TX3) (N := 6) hx hb hts inX3_begin_RX3 hown hK hP 0 rfl rfl 3 (Nat.le_of_ble_eq_true rfl) (hts _ (List.mem_of_getElem? (i := 4) rfl)) (fun _ h9 => h9) rfl dX3_begin_25 ?_
  refine lv_iconst (v := (-1 : Int32)) hx hb dX3_begin_28 (by decide) ?_
  obtain ⟨o29, hc29, h⟩ := az_bnd h
  refine az_callSv (w2 := az_cS g ad (va_up (va_up (va_up (va_up V 0 o5) 1 o13) 2 o21) 3 o29)) (As := [.ref (ad 5), .int (-1 : Int32)]) (rest := []) ⟨hx, hb, hml, hown, hts⟩ hl.1 (kJ7_fill_53178 l g (ad 5) 2 (fun _ => (V 3)) (-1 : Int32) o29 hc29) (va_cwS 2 hts gX3_begin_J7_fill_53178 rfl rfl rfl (by decide +kernel) ⟨Nat.le_of_ble_eq_true rfl, Nat.le_of_ble_eq_true rfl⟩) rfl hK hP hD hS hA [4] [0, 1, 2, 3] [0, 1, 2, 3, 4] rfl rfl rfl rfl rfl (by decide) rfl rfl rfl (Nat.le_of_ble_eq_true rfl) dX3_begin_29 ⟨Nat.zero_le _, Nat.zero_le _⟩ rfl (fun H locs hP hD hS => ?_)
  refine lv_aload_n hx hb dX3_begin_32 rfl (lv_at hl 0 rfl) ?_
  refine lv_iload_n hx hb dX3_begin_33 rfl (lv_at hl 1 rfl) ?_
  refine va_put (D := g.1) (ci := 3) (v := .int x1) (ty := .int) (C := RX3) (T := TX3) (N := 6) hx hb hts inX3_begin_RX3 tyX3 tyX3_ok nmX3 hown hK hP hD hS 0 rfl rfl 4 (Nat.le_of_ble_eq_true rfl) (hts _ (List.mem_of_getElem? (i := 5) rfl)) (fun _ h9 => h9) rfl (by decide +kernel) rfl rfl (Nat.le_of_ble_eq_true rfl) dX3_begin_34 (fun H locs hP hD hS => ?_)
  have hP : va_P g.1 az_cl (az_cS g ad (va_up (va_up (va_up (va_up (va_up V 0 o5) 1 o13) 2 o21) 3 o29) 4 (upd (V 4) 0 x1))) _ := hP
  have hD : va_D A (az_cS g ad (va_up (va_up (va_up (va_up (va_up V 0 o5) 1 o13) 2 o21) 3 o29) 4 (upd (V 4) 0 x1))) := hD
  refine lv_aload_n hx hb dX3_begin_37 rfl (lv_at hl 0 rfl) ?_
  refine lv_iload_n hx hb dX3_begin_38 rfl (lv_at hl 2 rfl) ?_
  refine va_put (D := g.1) (ci := 3) (v := .int x2) (ty := .int) (C := RX3) (T := TX3) (N := 6) hx hb hts inX3_begin_RX3 tyX3 tyX3_ok nmX3 hown hK hP hD hS 0 rfl rfl 5 (Nat.le_of_ble_eq_true rfl) (hts _ (List.mem_of_getElem? (i := 6) rfl)) (fun _ h9 => h9) rfl (by decide +kernel) rfl rfl (Nat.le_of_ble_eq_true rfl) dX3_begin_39 (fun H locs hP hD hS => ?_)
  have hP : va_P g.1 az_cl (az_cS g ad (va_up (va_up (va_up (va_up (va_up V 0 o5) 1 o13) 2 o21) 3 o29) 4 (upd (upd (V 4) 0 x1) 1 x2))) _ := hP
  have hD : va_D A (az_cS g ad (va_up (va_up (va_up (va_up (va_up V 0 o5) 1 o13) 2 o21) 3 o29) 4 (upd (upd (V 4) 0 x1) 1 x2))) := hD
  have hP : va_P g.1 az_cl (az_cS g ad (va_up (va_up (va_up (va_up (va_up V 0 o5) 1 o13) 2 o21) 3 o29) 4 (upd (upd (V 4) 0 x1) 1 x2))) _ := hP
  have hD : va_D A (az_cS g ad (va_up (va_up (va_up (va_up (va_up V 0 o5) 1 o13) 2 o21) 3 o29) 4 (upd (upd (V 4) 0 x1) 1 x2))) := hD
  rw [← Option.some.inj h]
  exact az_vret hx hb hr hlocks hK hP hD hS dX3_begin_42

def FX3_copyFrom (V : az_St) (O : az_St) : Option ((Nat → Int32) × (Nat → Int32) × (Nat → Int32) × (Nat → Int32) × (Nat → Int32)) := some (va_cpy (O 0) (V 0) (0 : Int32).toNatClampNeg (0 : Int32).toNatClampNeg (10 : Int32).toNatClampNeg, va_cpy (O 1) (V 1) (0 : Int32).toNatClampNeg (0 : Int32).toNatClampNeg (10 : Int32).toNatClampNeg, va_cpy (O 2) (V 2) (0 : Int32).toNatClampNeg (0 : Int32).toNatClampNeg (10 : Int32).toNatClampNeg, va_cpy (O 3) (V 3) (0 : Int32).toNatClampNeg (0 : Int32).toNatClampNeg (2 : Int32).toNatClampNeg, upd (upd (V 4) 0 ((O 4) 0)) 1 ((O 4) 1))
theorem inX3_copyFrom_RX3 : ∀ w ∈ wsX30, w ∈ wsX3_copyFrom := az_inr [11, 12, 13, 14, 15, 16] (by decide +kernel)
set_option maxHeartbeats 4000000 in
set_option maxRecDepth 100000 in
theorem kX3_copyFrom (l : Launch) (g : az_G) (ad : Nat → Nat) (ad2 : Nat → Nat) (V : az_St) (O : az_St) (o : (Nat → Int32) × (Nat → Int32) × (Nat → Int32) × (Nat → Int32) × (Nat → Int32)) (h : FX3_copyFrom V O = some o) : az_V l yX3_copyFrom wsX3_copyFrom ({ frames := 1, cells := 0, slots := 0, locals := 100 } : Room) [.ref (ad 1), .ref (ad2 1)] g ((az_cS g ad V ++ az_cS g ad2 O)) ((az_cS g ad (va_up (va_up (va_up (va_up (va_up V 0 o.1) 1 o.2.1) 2 o.2.2.1) 3 o.2.2.2.1) 4 o.2.2.2.2) ++ az_cS g ad2 O)) := by
  refine az_body (cc := cX3_copyFrom) (maxL := 2) (ret := none) (Qc := fun A => az_QV g ((az_cS g ad (va_up (va_up (va_up (va_up (va_up V 0 o.1) 1 o.2.1) 2 o.2.2.1) 3 o.2.2.2.1) 4 o.2.2.2.2) ++ az_cS g ad2 O)) A) (by decide +kernel) rfl (Nat.le_of_ble_eq_true rfl) ?_
  intro p e s m args below meth c A hx hb hr hts hown hml hlocks hA hK hP hD hS ls hl
  have hl : lv_has ls 2 [(0, .ref (ad 1)), (1, .ref (ad2 1))] := hl
  unfold FX3_copyFrom at h
  refine lv_aload_n hx hb dX3_copyFrom_0 rfl (lv_at hl 1 rfl) ?_
  refine va_get (D := g.1) (ci := 3) (v := .ref (ad2 2)) (C := RX3) (T := TX3) (N := 6) hx hb hts inX3_copyFrom_RX3 hown hK hP 5 rfl rfl 0 (Nat.le_of_ble_eq_true rfl) (hts _ (List.mem_of_getElem? (i := 1) rfl)) (fun _ h9 => h9) rfl dX3_copyFrom_1 ?_
  refine lv_iconst (v := (0 : Int32)) hx hb dX3_copyFrom_4 (by decide) ?_
  refine lv_aload_n hx hb dX3_copyFrom_5 rfl (lv_at hl 0 rfl) ?_
  refine va_get (D := g.1) (ci := 3) (v := .ref (ad 2)) (C := RX3) (T := TX3) (N := 6) hx hb hts inX3_copyFrom_RX3 hown hK hP 0 rfl rfl 0 (Nat.le_of_ble_eq_true rfl) (hts _ (List.mem_of_getElem? (i := 1) rfl)) (fun _ h9 => h9) rfl dX3_copyFrom_6 ?_
  refine lv_iconst (v := (0 : Int32)) hx hb dX3_copyFrom_9 (by decide) ?_
  refine lv_bipush (v := (10 : Int32)) hx hb dX3_copyFrom_10 (by decide) ?_
  refine va_copyi (D := g.1) (f := (O 0)) (g := (V 0)) (ty := .int) hx hb (hml.trans hl.1.symm) hown (hts _ (List.mem_of_getElem? (i := 2) rfl)) (hts _ (List.mem_of_getElem? (i := 3) rfl)) (hts _ (List.mem_of_getElem? (i := 4) rfl)) (hts _ (List.mem_of_getElem? (i := 5) rfl)) hK hP hD hS 6 1 0 0 rfl rfl rfl rfl rfl (by decide) (by decide) (by decide) (Nat.le_of_ble_eq_true rfl) (Nat.le_of_ble_eq_true rfl) (fun _ _ => rfl) (Nat.le_of_ble_eq_true rfl) (by decide +kernel) dX3_copyFrom_12 (fun H locs hP hD hS => ?_)
  have hP : va_P g.1 az_cl ((az_cS g ad (va_up V 0 (va_cpy (O 0) (V 0) (0 : Int32).toNatClampNeg (0 : Int32).toNatClampNeg (10 : Int32).toNatClampNeg)) ++ az_cS g ad2 O)) _ := hP
  have hD : va_D A ((az_cS g ad (va_up V 0 (va_cpy (O 0) (V 0) (0 : Int32).toNatClampNeg (0 : Int32).toNatClampNeg (10 : Int32).toNatClampNeg)) ++ az_cS g ad2 O)) := hD
  refine lv_aload_n hx hb dX3_copyFrom_15 rfl (lv_at hl 1 rfl) ?_
  refine va_get (D := g.1) (ci := 3) (v := .ref (ad2 3)) (C := RX3) (T := TX3) (N := 6) hx hb hts inX3_copyFrom_RX3 hown hK hP 5 rfl rfl 1 (Nat.le_of_ble_eq_true rfl) (hts _ (List.mem_of_getElem? (i := 6) rfl)) (fun _ h9 => h9) rfl dX3_copyFrom_16 ?_
  refine lv_iconst (v := (0 : Int32)) hx hb dX3_copyFrom_19 (by decide) ?_
  refine lv_aload_n hx hb dX3_copyFrom_20 rfl (lv_at hl 0 rfl) ?_
  refine va_get (D := g.1) (ci := 3) (v := .ref (ad 3)) (C := RX3) (T := TX3) (N := 6) hx hb hts inX3_copyFrom_RX3 hown hK hP 0 rfl rfl 1 (Nat.le_of_ble_eq_true rfl) (hts _ (List.mem_of_getElem? (i := 6) rfl)) (fun _ h9 => h9) rfl dX3_copyFrom_21 ?_
  refine lv_iconst (v := (0 : Int32)) hx hb dX3_copyFrom_24 (by decide) ?_
  refine lv_bipush (v := (10 : Int32)) hx hb dX3_copyFrom_25 (by decide) ?_
  refine va_copyi (D := g.1) (f := (O 1)) (g := (V 1)) (ty := .int) hx hb (hml.trans hl.1.symm) hown (hts _ (List.mem_of_getElem? (i := 2) rfl)) (hts _ (List.mem_of_getElem? (i := 3) rfl)) (hts _ (List.mem_of_getElem? (i := 4) rfl)) (hts _ (List.mem_of_getElem? (i := 5) rfl)) hK hP hD hS 7 2 0 0 rfl rfl rfl rfl rfl (by decide) (by decide) (by decide) (Nat.le_of_ble_eq_true rfl) (Nat.le_of_ble_eq_true rfl) (fun _ _ => rfl) (Nat.le_of_ble_eq_true rfl) (by decide +kernel) dX3_copyFrom_27 (fun H locs hP hD hS => ?_)
  have hP : va_P g.1 az_cl ((az_cS g ad (va_up (va_up V 0 (va_cpy (O 0) (V 0) (0 : Int32).toNatClampNeg (0 : Int32).toNatClampNeg (10 : Int32).toNatClampNeg)) 1 (va_cpy (O 1) (V 1) (0 : Int32).toNatClampNeg (0 : Int32).toNatClampNeg (10 : Int32).toNatClampNeg)) ++ az_cS g ad2 O)) _ := hP
  have hD : va_D A ((az_cS g ad (va_up (va_up V 0 (va_cpy (O 0) (V 0) (0 : Int32).toNatClampNeg (0 : Int32).toNatClampNeg (10 : Int32).toNatClampNeg)) 1 (va_cpy (O 1) (V 1) (0 : Int32).toNatClampNeg (0 : Int32).toNatClampNeg (10 : Int32).toNatClampNeg)) ++ az_cS g ad2 O)) := hD
  refine lv_aload_n hx hb dX3_copyFrom_30 rfl (lv_at hl 1 rfl) ?_
  refine va_get (D := g.1) (ci := 3) (v := .ref (ad2 4)) (C := RX3) (T := TX3) (N := 6) hx hb hts inX3_copyFrom_RX3 hown hK hP 5 rfl rfl 2 (Nat.le_of_ble_eq_true rfl) (hts _ (List.mem_of_getElem? (i := 7) rfl)) (fun _ h9 => h9) rfl dX3_copyFrom_31 ?_
  refine lv_iconst (v := (0 : Int32)) hx hb dX3_copyFrom_34 (by decide) ?_
  refine lv_aload_n hx hb dX3_copyFrom_35 rfl (lv_at hl 0 rfl) ?_
  refine va_get (D := g.1) (ci := 3) (v := .ref (ad 4)) (C := RX3) (T := TX3) (N := 6) hx hb hts inX3_copyFrom_RX3 hown hK hP 0 rfl rfl 2 (Nat.le_of_ble_eq_true rfl) (hts _ (List.mem_of_getElem? (i := 7) rfl)) (fun _ h9 => h9) rfl dX3_copyFrom_36 ?_
  refine lv_iconst (v := (0 : Int32)) hx hb dX3_copyFrom_39 (by decide) ?_
  refine lv_bipush (v := (10 : Int32)) hx hb dX3_copyFrom_40 (by decide) ?_
  refine va_copyi (D := g.1) (f := (O 2)) (g := (V 2)) (ty := .int) hx hb (hml.trans hl.1.symm) hown (hts _ (List.mem_of_getElem? (i := 2) rfl)) (hts _ (List.mem_of_getElem? (i := 3) rfl)) (hts _ (List.mem_of_getElem? (i := 4) rfl)) (hts _ (List.mem_of_getElem? (i := 5) rfl)) hK hP hD hS 8 3 0 0 rfl rfl rfl rfl rfl (by decide) (by decide) (by decide) (Nat.le_of_ble_eq_true rfl) (Nat.le_of_ble_eq_true rfl) (fun _ _ => rfl) (Nat.le_of_ble_eq_true rfl) (by decide +kernel) dX3_copyFrom_42 (fun H locs hP hD hS => ?_)
  have hP : va_P g.1 az_cl ((az_cS g ad (va_up (va_up (va_up V 0 (va_cpy (O 0) (V 0) (0 : Int32).toNatClampNeg (0 : Int32).toNatClampNeg (10 : Int32).toNatClampNeg)) 1 (va_cpy (O 1) (V 1) (0 : Int32).toNatClampNeg (0 : Int32).toNatClampNeg (10 : Int32).toNatClampNeg)) 2 (va_cpy (O 2) (V 2) (0 : Int32).toNatClampNeg (0 : Int32).toNatClampNeg (10 : Int32).toNatClampNeg)) ++ az_cS g ad2 O)) _ := hP
  have hD : va_D A ((az_cS g ad (va_up (va_up (va_up V 0 (va_cpy (O 0) (V 0) (0 : Int32).toNatClampNeg (0 : Int32).toNatClampNeg (10 : Int32).toNatClampNeg)) 1 (va_cpy (O 1) (V 1) (0 : Int32).toNatClampNeg (0 : Int32).toNatClampNeg (10 : Int32).toNatClampNeg)) 2 (va_cpy (O 2) (V 2) (0 : Int32).toNatClampNeg (0 : Int32).toNatClampNeg (10 : Int32).toNatClampNeg)) ++ az_cS g ad2 O)) := hD
  refine lv_aload_n hx hb dX3_copyFrom_45 rfl (lv_at hl 1 rfl) ?_
  refine va_get (D := g.1) (ci := 3) (v := .ref (ad2 5)) (C := RX3) (T := TX3) (N := 6) hx hb hts inX3_copyFrom_RX3 hown hK hP 5 rfl rfl 3 (Nat.le_of_ble_eq_true rfl) (hts _ (List.mem_of_getElem? (i := 8) rfl)) (fun _ h9 => h9) rfl dX3_copyFrom_46 ?_
  refine lv_iconst (v := (0 : Int32)) hx hb dX3_copyFrom_49 (by decide) ?_
  refine lv_aload_n hx hb dX3_copyFrom_50 rfl (lv_at hl 0 rfl) ?_
  refine va_get (D := g.1) (ci := 3) (v := .ref (ad 5)) (C := RX3) (T := TX3) (N := 6) hx hb hts inX3_copyFrom_RX3 hown hK hP 0 rfl rfl 3 (Nat.le_of_ble_eq_true rfl) (hts _ (List.mem_of_getElem? (i := 8) rfl)) (fun _ h9 => h9) rfl dX3_copyFrom_51 ?_
  refine lv_iconst (v := (0 : Int32)) hx hb dX3_copyFrom_54 (by decide) ?_
  refine lv_iconst (v := (2 : Int32)) hx hb dX3_copyFrom_55 (by decide) ?_
  refine va_copyi (D := g.1) (f := (O 3)) (g := (V 3)) (ty := .int) hx hb (hml.trans hl.1.symm) hown (hts _ (List.mem_of_getElem? (i := 2) rfl)) (hts _ (List.mem_of_getElem? (i := 3) rfl)) (hts _ (List.mem_of_getElem? (i := 4) rfl)) (hts _ (List.mem_of_getElem? (i := 5) rfl)) hK hP hD hS 9 4 0 0 rfl rfl rfl rfl rfl (by decide) (by decide) (by decide) (Nat.le_of_ble_eq_true rfl) (Nat.le_of_ble_eq_true rfl) (fun _ _ => rfl) (Nat.le_of_ble_eq_true rfl) (by decide +kernel) dX3_copyFrom_56 (fun H locs hP hD hS => ?_)
  have hP : va_P g.1 az_cl ((az_cS g ad (va_up (va_up (va_up (va_up V 0 (va_cpy (O 0) (V 0) (0 : Int32).toNatClampNeg (0 : Int32).toNatClampNeg (10 : Int32).toNatClampNeg)) 1 (va_cpy (O 1) (V 1) (0 : Int32).toNatClampNeg (0 : Int32).toNatClampNeg (10 : Int32).toNatClampNeg)) 2 (va_cpy (O 2) (V 2) (0 : Int32).toNatClampNeg (0 : Int32).toNatClampNeg (10 : Int32).toNatClampNeg)) 3 (va_cpy (O 3) (V 3) (0 : Int32).toNatClampNeg (0 : Int32).toNatClampNeg (2 : Int32).toNatClampNeg)) ++ az_cS g ad2 O)) _ := hP
  have hD : va_D A ((az_cS g ad (va_up (va_up (va_up (va_up V 0 (va_cpy (O 0) (V 0) (0 : Int32).toNatClampNeg (0 : Int32).toNatClampNeg (10 : Int32).toNatClampNeg)) 1 (va_cpy (O 1) (V 1) (0 : Int32).toNatClampNeg (0 : Int32).toNatClampNeg (10 : Int32).toNatClampNeg)) 2 (va_cpy (O 2) (V 2) (0 : Int32).toNatClampNeg (0 : Int32).toNatClampNeg (10 : Int32).toNatClampNeg)) 3 (va_cpy (O 3) (V 3) (0 : Int32).toNatClampNeg (0 : Int32).toNatClampNeg (2 : Int32).toNatClampNeg)) ++ az_cS g ad2 O)) := hD
  refine lv_aload_n hx hb dX3_copyFrom_59 rfl (lv_at hl 0 rfl) ?_
  refine lv_aload_n hx hb dX3_copyFrom_60 rfl (lv_at hl 1 rfl) ?_
  refine va_get (D := g.1) (ci := 3) (v := .int ((O 4) 0)) (C := RX3) (T := TX3) (N := 6) hx hb hts inX3_copyFrom_RX3 hown hK hP 5 rfl rfl 4 (Nat.le_of_ble_eq_true rfl) (hts _ (List.mem_of_getElem? (i := 9) rfl)) (fun _ h9 => h9) rfl dX3_copyFrom_61 ?_
  refine va_put (D := g.1) (ci := 3) (v := .int ((O 4) 0)) (ty := .int) (C := RX3) (T := TX3) (N := 6) hx hb hts inX3_copyFrom_RX3 tyX3 tyX3_ok nmX3 hown hK hP hD hS 0 rfl rfl 4 (Nat.le_of_ble_eq_true rfl) (hts _ (List.mem_of_getElem? (i := 9) rfl)) (fun _ h9 => h9) rfl (by decide +kernel) rfl rfl (Nat.le_of_ble_eq_true rfl) dX3_copyFrom_64 (fun H locs hP hD hS => ?_)
  have hP : va_P g.1 az_cl ((az_cS g ad (va_up (va_up (va_up (va_up (va_up V 0 (va_cpy (O 0) (V 0) (0 : Int32).toNatClampNeg (0 : Int32).toNatClampNeg (10 : Int32).toNatClampNeg)) 1 (va_cpy (O 1) (V 1) (0 : Int32).toNatClampNeg (0 : Int32).toNatClampNeg (10 : Int32).toNatClampNeg)) 2 (va_cpy (O 2) (V 2) (0 : Int32).toNatClampNeg (0 : Int32).toNatClampNeg (10 : Int32).toNatClampNeg)) 3 (va_cpy (O 3) (V 3) (0 : Int32).toNatClampNeg (0 : Int32).toNatClampNeg (2 : Int32).toNatClampNeg)) 4 (upd (V 4) 0 ((O 4) 0))) ++ az_cS g ad2 O)) _ := hP
  have hD : va_D A ((az_cS g ad (va_up (va_up (va_up (va_up (va_up V 0 (va_cpy (O 0) (V 0) (0 : Int32).toNatClampNeg (0 : Int32).toNatClampNeg (10 : Int32).toNatClampNeg)) 1 (va_cpy (O 1) (V 1) (0 : Int32).toNatClampNeg (0 : Int32).toNatClampNeg (10 : Int32).toNatClampNeg)) 2 (va_cpy (O 2) (V 2) (0 : Int32).toNatClampNeg (0 : Int32).toNatClampNeg (10 : Int32).toNatClampNeg)) 3 (va_cpy (O 3) (V 3) (0 : Int32).toNatClampNeg (0 : Int32).toNatClampNeg (2 : Int32).toNatClampNeg)) 4 (upd (V 4) 0 ((O 4) 0))) ++ az_cS g ad2 O)) := hD
  refine lv_aload_n hx hb dX3_copyFrom_67 rfl (lv_at hl 0 rfl) ?_
  refine lv_aload_n hx hb dX3_copyFrom_68 rfl (lv_at hl 1 rfl) ?_
  refine va_get (D := g.1) (ci := 3) (v := .int ((O 4) 1)) (C := RX3) (T := TX3) (N := 6) hx hb hts inX3_copyFrom_RX3 hown hK hP 5 rfl rfl 5 (Nat.le_of_ble_eq_true rfl) (hts _ (List.mem_of_getElem? (i := 10) rfl)) (fun _ h9 => h9) rfl dX3_copyFrom_69 ?_
  refine va_put (D := g.1) (ci := 3) (v := .int ((O 4) 1)) (ty := .int) (C := RX3) (T := TX3) (N := 6) hx hb hts inX3_copyFrom_RX3 tyX3 tyX3_ok nmX3 hown hK hP hD hS 0 rfl rfl 5 (Nat.le_of_ble_eq_true rfl) (hts _ (List.mem_of_getElem? (i := 10) rfl)) (fun _ h9 => h9) rfl (by decide +kernel) rfl rfl (Nat.le_of_ble_eq_true rfl) dX3_copyFrom_72 (fun H locs hP hD hS => ?_)
  have hP : va_P g.1 az_cl ((az_cS g ad (va_up (va_up (va_up (va_up (va_up V 0 (va_cpy (O 0) (V 0) (0 : Int32).toNatClampNeg (0 : Int32).toNatClampNeg (10 : Int32).toNatClampNeg)) 1 (va_cpy (O 1) (V 1) (0 : Int32).toNatClampNeg (0 : Int32).toNatClampNeg (10 : Int32).toNatClampNeg)) 2 (va_cpy (O 2) (V 2) (0 : Int32).toNatClampNeg (0 : Int32).toNatClampNeg (10 : Int32).toNatClampNeg)) 3 (va_cpy (O 3) (V 3) (0 : Int32).toNatClampNeg (0 : Int32).toNatClampNeg (2 : Int32).toNatClampNeg)) 4 (upd (upd (V 4) 0 ((O 4) 0)) 1 ((O 4) 1))) ++ az_cS g ad2 O)) _ := hP
  have hD : va_D A ((az_cS g ad (va_up (va_up (va_up (va_up (va_up V 0 (va_cpy (O 0) (V 0) (0 : Int32).toNatClampNeg (0 : Int32).toNatClampNeg (10 : Int32).toNatClampNeg)) 1 (va_cpy (O 1) (V 1) (0 : Int32).toNatClampNeg (0 : Int32).toNatClampNeg (10 : Int32).toNatClampNeg)) 2 (va_cpy (O 2) (V 2) (0 : Int32).toNatClampNeg (0 : Int32).toNatClampNeg (10 : Int32).toNatClampNeg)) 3 (va_cpy (O 3) (V 3) (0 : Int32).toNatClampNeg (0 : Int32).toNatClampNeg (2 : Int32).toNatClampNeg)) 4 (upd (upd (V 4) 0 ((O 4) 0)) 1 ((O 4) 1))) ++ az_cS g ad2 O)) := hD
  have hP : va_P g.1 az_cl ((az_cS g ad (va_up (va_up (va_up (va_up (va_up V 0 (va_cpy (O 0) (V 0) (0 : Int32).toNatClampNeg (0 : Int32).toNatClampNeg (10 : Int32).toNatClampNeg)) 1 (va_cpy (O 1) (V 1) (0 : Int32).toNatClampNeg (0 : Int32).toNatClampNeg (10 : Int32).toNatClampNeg)) 2 (va_cpy (O 2) (V 2) (0 : Int32).toNatClampNeg (0 : Int32).toNatClampNeg (10 : Int32).toNatClampNeg)) 3 (va_cpy (O 3) (V 3) (0 : Int32).toNatClampNeg (0 : Int32).toNatClampNeg (2 : Int32).toNatClampNeg)) 4 (upd (upd (V 4) 0 ((O 4) 0)) 1 ((O 4) 1))) ++ az_cS g ad2 O)) _ := hP
  have hD : va_D A ((az_cS g ad (va_up (va_up (va_up (va_up (va_up V 0 (va_cpy (O 0) (V 0) (0 : Int32).toNatClampNeg (0 : Int32).toNatClampNeg (10 : Int32).toNatClampNeg)) 1 (va_cpy (O 1) (V 1) (0 : Int32).toNatClampNeg (0 : Int32).toNatClampNeg (10 : Int32).toNatClampNeg)) 2 (va_cpy (O 2) (V 2) (0 : Int32).toNatClampNeg (0 : Int32).toNatClampNeg (10 : Int32).toNatClampNeg)) 3 (va_cpy (O 3) (V 3) (0 : Int32).toNatClampNeg (0 : Int32).toNatClampNeg (2 : Int32).toNatClampNeg)) 4 (upd (upd (V 4) 0 ((O 4) 0)) 1 ((O 4) 1))) ++ az_cS g ad2 O)) := hD
  rw [← Option.some.inj h]
  exact az_vret hx hb hr hlocks hK hP hD hS dX3_copyFrom_75

def FX3_freeSegments_L4 : Nat → az_St → Int32 → Int32 → Option (Int32)
  | 0, _, _, _ => none
  | n + 1, V, y1, y2 => if (V 4) 0 ≤ y2 then (some (y1)) else (if az_in y2 10 = true then if (V 0) y2.toNatClampNeg = (0 : Int32) then (FX3_freeSegments_L4 n V (y1 + (1 : Int32)) (y2 + (1 : Int32))) else (FX3_freeSegments_L4 n V y1 (y2 + (1 : Int32))) else none)
theorem FX3_freeSegments_L4_s (n : Nat) (V : az_St) (y1 : Int32) (y2 : Int32) : FX3_freeSegments_L4 (n + 1) V y1 y2 = (if (V 4) 0 ≤ y2 then (some (y1)) else (if az_in y2 10 = true then if (V 0) y2.toNatClampNeg = (0 : Int32) then (FX3_freeSegments_L4 n V (y1 + (1 : Int32)) (y2 + (1 : Int32))) else (FX3_freeSegments_L4 n V y1 (y2 + (1 : Int32))) else none)) := rfl
def FX3_freeSegments (V : az_St) : Option (Int32) := FX3_freeSegments_L4 az_fuel V (0 : Int32) (0 : Int32)
theorem inX3_freeSegments_RX3 : ∀ w ∈ wsX30, w ∈ wsX3_freeSegments := az_inr [3, 4, 5, 6, 7, 8] (by decide +kernel)
set_option maxHeartbeats 4000000 in
set_option maxRecDepth 100000 in
theorem kX3_freeSegments (l : Launch) (g : az_G) (ad : Nat → Nat) (V : az_St) (o : Int32) (h : FX3_freeSegments V = some o) : az_I l yX3_freeSegments wsX3_freeSegments ({ frames := 0, cells := 0, slots := 0, locals := 0 } : Room) [.ref (ad 1)] g (az_cS g ad V) o (az_cS g ad V) := by
  refine az_body (cc := cX3_freeSegments) (maxL := 3) (ret := (some .int)) (Qc := fun A => az_QI g (az_cS g ad V) o A) (by decide +kernel) rfl (Nat.le_of_ble_eq_true rfl) ?_
  intro p e s m args below meth c A hx hb hr hts hown hml hlocks hA hK hP hD hS ls hl
  have hl : lv_has ls 3 [(0, .ref (ad 1))] := hl
  unfold FX3_freeSegments at h
  have hL4 : ∀ (n : Nat) (y1 : Int32) (y2 : Int32) (H : Heap) (locs : List Loc) (ls : Array Slot), FX3_freeSegments_L4 n V y1 y2 = some o → va_P g.1 az_cl (az_cS g ad V) H → va_D A (az_cS g ad V) → va_S A s.heap H locs → lv_has ls 3 [(0, .ref (ad 1)), (1, .int y1), (2, .int y2)] → W p l e ({ frames := 0, cells := 0, slots := 0, locals := 0 } : Room) s m args below meth c H locs 0 0 (MQ below (az_QI g (az_cS g ad V) o A) args s 0 0 A) (F0 m 4 ls []) := by
    intro n
    induction n with
    | zero => intro y1 y2 H locs ls h; exact az_non h
    | succ n ih =>
      intro y1 y2 H locs ls h hP hD hS hl
      rw [FX3_freeSegments_L4_s] at h
      refine lv_iload_n hx hb dX3_freeSegments_4 rfl (lv_at hl 2 rfl) ?_
      refine lv_aload_n hx hb dX3_freeSegments_5 rfl (lv_at hl 0 rfl) ?_
      refine va_get (D := g.1) (ci := 3) (v := .int ((V 4) 0)) (C := RX3) (T := TX3) (N := 6) hx hb hts inX3_freeSegments_RX3 hown hK hP 0 rfl rfl 4 (Nat.le_of_ble_eq_true rfl) (hts _ (List.mem_of_getElem? (i := 1) rfl)) (fun _ h9 => h9) rfl dX3_freeSegments_6 ?_
      refine lv_icmp_ge (tgt := 30) hx hb dX3_freeSegments_9 (by decide) (fun c9 => ?_) (fun c9 => ?_)
      · replace h := az_pos c9 h
        refine lv_iload_n hx hb dX3_freeSegments_30 rfl (lv_at hl 1 rfl) ?_
        have hP : va_P g.1 az_cl (az_cS g ad V) _ := hP
        have hD : va_D A (az_cS g ad V) := hD
        rw [← Option.some.inj h]
        exact az_iret hx hb hr hlocks hK hP hD hS dX3_freeSegments_31
      · replace h := az_neg c9 h
        refine lv_aload_n hx hb dX3_freeSegments_12 rfl (lv_at hl 0 rfl) ?_
        refine va_get (D := g.1) (ci := 3) (v := .ref (ad 2)) (C := RX3) (T := TX3) (N := 6) hx hb hts inX3_freeSegments_RX3 hown hK hP 0 rfl rfl 0 (Nat.le_of_ble_eq_true rfl) (hts _ (List.mem_of_getElem? (i := 2) rfl)) (fun _ h9 => h9) rfl dX3_freeSegments_13 ?_
        refine lv_iload_n hx hb dX3_freeSegments_16 rfl (lv_at hl 2 rfl) ?_
        obtain ⟨i17, h⟩ := az_ite h
        refine va_iald (D := g.1) (f := (V 0)) hx hb hK hP 1 0 rfl rfl (az_vin i17) dX3_freeSegments_17 ?_
        refine lv_if_ne (tgt := 24) hx hb dX3_freeSegments_18 (by decide) (fun c18 => ?_) (fun c18 => ?_)
        · replace h := az_neg c18 h
          refine lv_iinc (v := y2 + (1 : Int32)) (lv' := [(2, .int (y2 + (1 : Int32))), (0, .ref (ad 1)), (1, .int y1)]) hx hb dX3_freeSegments_24 hl (k := 2) rfl (rfl) (by decide) rfl (fun ls hl => ?_)
          refine lv_goto (tgt := 4) hx hb dX3_freeSegments_27 (by decide) ?_
          have hP : va_P g.1 az_cl (az_cS g ad V) _ := hP
          have hD : va_D A (az_cS g ad V) := hD
          exact ih y1 (y2 + (1 : Int32)) _ _ ls h hP hD hS (lv_sub hl [1, 2, 0] rfl)
        · replace h := az_pos c18 h
          refine lv_iinc (v := y1 + (1 : Int32)) (lv' := [(1, .int (y1 + (1 : Int32))), (0, .ref (ad 1)), (2, .int y2)]) hx hb dX3_freeSegments_21 hl (k := 1) rfl (rfl) (by decide) rfl (fun ls hl => ?_)
          refine lv_iinc (v := y2 + (1 : Int32)) (lv' := [(2, .int (y2 + (1 : Int32))), (1, .int (y1 + (1 : Int32))), (0, .ref (ad 1))]) hx hb dX3_freeSegments_24 hl (k := 2) rfl (rfl) (by decide) rfl (fun ls hl => ?_)
          refine lv_goto (tgt := 4) hx hb dX3_freeSegments_27 (by decide) ?_
          have hP : va_P g.1 az_cl (az_cS g ad V) _ := hP
          have hD : va_D A (az_cS g ad V) := hD
          exact ih (y1 + (1 : Int32)) (y2 + (1 : Int32)) _ _ ls h hP hD hS (lv_sub hl [2, 1, 0] rfl)
  refine lv_iconst (v := (0 : Int32)) hx hb dX3_freeSegments_0 (by decide) ?_
  refine lv_istore_n (lv' := [(1, .int (0 : Int32)), (0, .ref (ad 1))]) hx hb dX3_freeSegments_1 rfl hl (by decide) rfl (fun ls hl => ?_)
  refine lv_iconst (v := (0 : Int32)) hx hb dX3_freeSegments_2 (by decide) ?_
  refine lv_istore_n (lv' := [(2, .int (0 : Int32)), (1, .int (0 : Int32)), (0, .ref (ad 1))]) hx hb dX3_freeSegments_3 rfl hl (by decide) rfl (fun ls hl => ?_)
  have hP : va_P g.1 az_cl (az_cS g ad V) _ := hP
  have hD : va_D A (az_cS g ad V) := hD
  exact hL4 az_fuel (0 : Int32) (0 : Int32) _ _ ls h hP hD hS (lv_sub hl [2, 1, 0] rfl)

def FX3_unusedAt (V : az_St) (x1 : Int32) : Option (Int32) := if az_in x1 2 = true then if (V 3) x1.toNatClampNeg = (-1 : Int32) then (some ((0 : Int32))) else (if az_in ((V 3) x1.toNatClampNeg) 10 = true then some (((V 4) 1) - ((V 2) ((V 3) x1.toNatClampNeg).toNatClampNeg)) else none) else none
theorem inX3_unusedAt_RX3 : ∀ w ∈ wsX30, w ∈ wsX3_unusedAt := az_inr [4, 5, 6, 7, 8, 9] (by decide +kernel)
set_option maxHeartbeats 4000000 in
set_option maxRecDepth 100000 in
theorem kX3_unusedAt (l : Launch) (g : az_G) (ad : Nat → Nat) (V : az_St) (x1 : Int32) (o : Int32) (h : FX3_unusedAt V x1 = some o) : az_I l yX3_unusedAt wsX3_unusedAt ({ frames := 0, cells := 0, slots := 0, locals := 0 } : Room) [.ref (ad 1), .int x1] g (az_cS g ad V) o (az_cS g ad V) := by
  refine az_body (cc := cX3_unusedAt) (maxL := 3) (ret := (some .int)) (Qc := fun A => az_QI g (az_cS g ad V) o A) (by decide +kernel) rfl (Nat.le_of_ble_eq_true rfl) ?_
  intro p e s m args below meth c A hx hb hr hts hown hml hlocks hA hK hP hD hS ls hl
  have hl : lv_has ls 3 [(0, .ref (ad 1)), (1, .int x1)] := hl
  unfold FX3_unusedAt at h
  refine lv_aload_n hx hb dX3_unusedAt_0 rfl (lv_at hl 0 rfl) ?_
  refine va_get (D := g.1) (ci := 3) (v := .ref (ad 5)) (C := RX3) (T := TX3) (N := 6) hx hb hts inX3_unusedAt_RX3 hown hK hP 0 rfl rfl 3 (Nat.le_of_ble_eq_true rfl) (hts _ (List.mem_of_getElem? (i := 1) rfl)) (fun _ h9 => h9) rfl dX3_unusedAt_1 ?_
  refine lv_iload_n hx hb dX3_unusedAt_4 rfl (lv_at hl 1 rfl) ?_
  obtain ⟨i5, h⟩ := az_ite h
  refine va_iald (D := g.1) (f := (V 3)) hx hb hK hP 4 0 rfl rfl (az_vin i5) dX3_unusedAt_5 ?_
  refine lv_istore_n (lv' := [(2, .int ((V 3) x1.toNatClampNeg)), (0, .ref (ad 1)), (1, .int x1)]) hx hb dX3_unusedAt_6 rfl hl (by decide) rfl (fun ls hl => ?_)
  refine lv_iload_n hx hb dX3_unusedAt_7 rfl (lv_at hl 0 rfl) ?_
  refine lv_iconst (v := (-1 : Int32)) hx hb dX3_unusedAt_8 (by decide) ?_
  refine lv_icmp_ne (tgt := 16) hx hb dX3_unusedAt_9 (by decide) (fun c9 => ?_) (fun c9 => ?_)
  · replace h := az_neg c9 h
    refine lv_aload_n hx hb dX3_unusedAt_16 rfl (lv_at hl 1 rfl) ?_
    refine va_get (D := g.1) (ci := 3) (v := .int ((V 4) 1)) (C := RX3) (T := TX3) (N := 6) hx hb hts inX3_unusedAt_RX3 hown hK hP 0 rfl rfl 5 (Nat.le_of_ble_eq_true rfl) (hts _ (List.mem_of_getElem? (i := 2) rfl)) (fun _ h9 => h9) rfl dX3_unusedAt_17 ?_
    refine lv_aload_n hx hb dX3_unusedAt_20 rfl (lv_at hl 1 rfl) ?_
    refine va_get (D := g.1) (ci := 3) (v := .ref (ad 4)) (C := RX3) (T := TX3) (N := 6) hx hb hts inX3_unusedAt_RX3 hown hK hP 0 rfl rfl 2 (Nat.le_of_ble_eq_true rfl) (hts _ (List.mem_of_getElem? (i := 3) rfl)) (fun _ h9 => h9) rfl dX3_unusedAt_21 ?_
    refine lv_iload_n hx hb dX3_unusedAt_24 rfl (lv_at hl 0 rfl) ?_
    obtain ⟨i25, h⟩ := az_ite h
    refine va_iald (D := g.1) (f := (V 2)) hx hb hK hP 3 0 rfl rfl (az_vin i25) dX3_unusedAt_25 ?_
    refine lv_isub hx hb dX3_unusedAt_26 ?_
    have hP : va_P g.1 az_cl (az_cS g ad V) _ := hP
    have hD : va_D A (az_cS g ad V) := hD
    rw [← Option.some.inj h]
    exact az_iret hx hb hr hlocks hK hP hD hS dX3_unusedAt_27
  · replace h := az_pos c9 h
    refine lv_iconst (v := (0 : Int32)) hx hb dX3_unusedAt_12 (by decide) ?_
    refine lv_goto (tgt := 27) hx hb dX3_unusedAt_13 (by decide) ?_
    have hP : va_P g.1 az_cl (az_cS g ad V) _ := hP
    have hD : va_D A (az_cS g ad V) := hD
    rw [← Option.some.inj h]
    exact az_iret hx hb hr hlocks hK hP hD hS dX3_unusedAt_27

def FX3_leastErasedFree_L4 : Nat → az_St → Int32 → Int32 → Option (Int32)
  | 0, _, _, _ => none
  | n + 1, V, y1, y2 => if (V 4) 0 ≤ y2 then (some (y1)) else (if az_in y2 10 = true then if (V 0) y2.toNatClampNeg = (0 : Int32) then (if y1 = (-1 : Int32) then (FX3_leastErasedFree_L4 n V y2 (y2 + (1 : Int32))) else (if az_in y1 10 = true then if (V 1) y1.toNatClampNeg ≤ (V 1) y2.toNatClampNeg then (FX3_leastErasedFree_L4 n V y1 (y2 + (1 : Int32))) else (FX3_leastErasedFree_L4 n V y2 (y2 + (1 : Int32))) else none)) else (FX3_leastErasedFree_L4 n V y1 (y2 + (1 : Int32))) else none)
theorem FX3_leastErasedFree_L4_s (n : Nat) (V : az_St) (y1 : Int32) (y2 : Int32) : FX3_leastErasedFree_L4 (n + 1) V y1 y2 = (if (V 4) 0 ≤ y2 then (some (y1)) else (if az_in y2 10 = true then if (V 0) y2.toNatClampNeg = (0 : Int32) then (if y1 = (-1 : Int32) then (FX3_leastErasedFree_L4 n V y2 (y2 + (1 : Int32))) else (if az_in y1 10 = true then if (V 1) y1.toNatClampNeg ≤ (V 1) y2.toNatClampNeg then (FX3_leastErasedFree_L4 n V y1 (y2 + (1 : Int32))) else (FX3_leastErasedFree_L4 n V y2 (y2 + (1 : Int32))) else none)) else (FX3_leastErasedFree_L4 n V y1 (y2 + (1 : Int32))) else none)) := rfl
def FX3_leastErasedFree (V : az_St) : Option (Int32) := FX3_leastErasedFree_L4 az_fuel V (-1 : Int32) (0 : Int32)
theorem inX3_leastErasedFree_RX3 : ∀ w ∈ wsX30, w ∈ wsX3_leastErasedFree := az_inr [4, 5, 6, 7, 8, 9] (by decide +kernel)
set_option maxHeartbeats 4000000 in
set_option maxRecDepth 100000 in
theorem kX3_leastErasedFree (l : Launch) (g : az_G) (ad : Nat → Nat) (V : az_St) (o : Int32) (h : FX3_leastErasedFree V = some o) : az_I l yX3_leastErasedFree wsX3_leastErasedFree ({ frames := 0, cells := 0, slots := 0, locals := 0 } : Room) [.ref (ad 1)] g (az_cS g ad V) o (az_cS g ad V) := by
  refine az_body (cc := cX3_leastErasedFree) (maxL := 3) (ret := (some .int)) (Qc := fun A => az_QI g (az_cS g ad V) o A) (by decide +kernel) rfl (Nat.le_of_ble_eq_true rfl) ?_
  intro p e s m args below meth c A hx hb hr hts hown hml hlocks hA hK hP hD hS ls hl
  have hl : lv_has ls 3 [(0, .ref (ad 1))] := hl
  unfold FX3_leastErasedFree at h
  have hL4 : ∀ (n : Nat) (y1 : Int32) (y2 : Int32) (H : Heap) (locs : List Loc) (ls : Array Slot), FX3_leastErasedFree_L4 n V y1 y2 = some o → va_P g.1 az_cl (az_cS g ad V) H → va_D A (az_cS g ad V) → va_S A s.heap H locs → lv_has ls 3 [(0, .ref (ad 1)), (1, .int y1), (2, .int y2)] → W p l e ({ frames := 0, cells := 0, slots := 0, locals := 0 } : Room) s m args below meth c H locs 0 0 (MQ below (az_QI g (az_cS g ad V) o A) args s 0 0 A) (F0 m 4 ls []) := by
    intro n
    induction n with
    | zero => intro y1 y2 H locs ls h; exact az_non h
    | succ n ih =>
      intro y1 y2 H locs ls h hP hD hS hl
      rw [FX3_leastErasedFree_L4_s] at h
      refine lv_iload_n hx hb dX3_leastErasedFree_4 rfl (lv_at hl 2 rfl) ?_
      refine lv_aload_n hx hb dX3_leastErasedFree_5 rfl (lv_at hl 0 rfl) ?_
      refine va_get (D := g.1) (ci := 3) (v := .int ((V 4) 0)) (C := RX3) (T := TX3) (N := 6) hx hb hts inX3_leastErasedFree_RX3 hown hK hP 0 rfl rfl 4 (Nat.le_of_ble_eq_true rfl) (hts _ (List.mem_of_getElem? (i := 1) rfl)) (fun _ h9 => h9) rfl dX3_leastErasedFree_6 ?_
      refine lv_icmp_ge (tgt := 49) hx hb dX3_leastErasedFree_9 (by decide) (fun c9 => ?_) (fun c9 => ?_)
      · replace h := az_pos c9 h
        refine lv_iload_n hx hb dX3_leastErasedFree_49 rfl (lv_at hl 1 rfl) ?_
        have hP : va_P g.1 az_cl (az_cS g ad V) _ := hP
        have hD : va_D A (az_cS g ad V) := hD
        rw [← Option.some.inj h]
        exact az_iret hx hb hr hlocks hK hP hD hS dX3_leastErasedFree_50
      · replace h := az_neg c9 h
        refine lv_aload_n hx hb dX3_leastErasedFree_12 rfl (lv_at hl 0 rfl) ?_
        refine va_get (D := g.1) (ci := 3) (v := .ref (ad 2)) (C := RX3) (T := TX3) (N := 6) hx hb hts inX3_leastErasedFree_RX3 hown hK hP 0 rfl rfl 0 (Nat.le_of_ble_eq_true rfl) (hts _ (List.mem_of_getElem? (i := 2) rfl)) (fun _ h9 => h9) rfl dX3_leastErasedFree_13 ?_
        refine lv_iload_n hx hb dX3_leastErasedFree_16 rfl (lv_at hl 2 rfl) ?_
        obtain ⟨i17, h⟩ := az_ite h
        refine va_iald (D := g.1) (f := (V 0)) hx hb hK hP 1 0 rfl rfl (az_vin i17) dX3_leastErasedFree_17 ?_
        refine lv_if_ne (tgt := 43) hx hb dX3_leastErasedFree_18 (by decide) (fun c18 => ?_) (fun c18 => ?_)
        · replace h := az_neg c18 h
          refine lv_iinc (v := y2 + (1 : Int32)) (lv' := [(2, .int (y2 + (1 : Int32))), (0, .ref (ad 1)), (1, .int y1)]) hx hb dX3_leastErasedFree_43 hl (k := 2) rfl (rfl) (by decide) rfl (fun ls hl => ?_)
          refine lv_goto (tgt := 4) hx hb dX3_leastErasedFree_46 (by decide) ?_
          have hP : va_P g.1 az_cl (az_cS g ad V) _ := hP
          have hD : va_D A (az_cS g ad V) := hD
          exact ih y1 (y2 + (1 : Int32)) _ _ ls h hP hD hS (lv_sub hl [1, 2, 0] rfl)
        · replace h := az_pos c18 h
          refine lv_iload_n hx hb dX3_leastErasedFree_21 rfl (lv_at hl 1 rfl) ?_
          refine lv_iconst (v := (-1 : Int32)) hx hb dX3_leastErasedFree_22 (by decide) ?_
          refine lv_icmp_eq (tgt := 41) hx hb dX3_leastErasedFree_23 (by decide) (fun c23 => ?_) (fun c23 => ?_)
          · replace h := az_pos c23 h
            refine lv_iload_n hx hb dX3_leastErasedFree_41 rfl (lv_at hl 2 rfl) ?_
            refine lv_istore_n (lv' := [(1, .int y2), (0, .ref (ad 1)), (2, .int y2)]) hx hb dX3_leastErasedFree_42 rfl hl (by decide) rfl (fun ls hl => ?_)
            refine lv_iinc (v := y2 + (1 : Int32)) (lv' := [(2, .int (y2 + (1 : Int32))), (1, .int y2), (0, .ref (ad 1))]) hx hb dX3_leastErasedFree_43 hl (k := 2) rfl (rfl) (by decide) rfl (fun ls hl => ?_)
            refine lv_goto (tgt := 4) hx hb dX3_leastErasedFree_46 (by decide) ?_
            have hP : va_P g.1 az_cl (az_cS g ad V) _ := hP
            have hD : va_D A (az_cS g ad V) := hD
            exact ih y2 (y2 + (1 : Int32)) _ _ ls h hP hD hS (lv_sub hl [2, 1, 0] rfl)
          · replace h := az_neg c23 h
            refine lv_aload_n hx hb dX3_leastErasedFree_26 rfl (lv_at hl 0 rfl) ?_
            refine va_get (D := g.1) (ci := 3) (v := .ref (ad 3)) (C := RX3) (T := TX3) (N := 6) hx hb hts inX3_leastErasedFree_RX3 hown hK hP 0 rfl rfl 1 (Nat.le_of_ble_eq_true rfl) (hts _ (List.mem_of_getElem? (i := 3) rfl)) (fun _ h9 => h9) rfl dX3_leastErasedFree_27 ?_
            refine lv_iload_n hx hb dX3_leastErasedFree_30 rfl (lv_at hl 2 rfl) ?_
            refine va_iald (D := g.1) (f := (V 1)) hx hb hK hP 2 0 rfl rfl (az_vin i17) dX3_leastErasedFree_31 ?_
            refine lv_aload_n hx hb dX3_leastErasedFree_32 rfl (lv_at hl 0 rfl) ?_
            refine va_get (D := g.1) (ci := 3) (v := .ref (ad 3)) (C := RX3) (T := TX3) (N := 6) hx hb hts inX3_leastErasedFree_RX3 hown hK hP 0 rfl rfl 1 (Nat.le_of_ble_eq_true rfl) (hts _ (List.mem_of_getElem? (i := 3) rfl)) (fun _ h9 => h9) rfl dX3_leastErasedFree_33 ?_
            refine lv_iload_n hx hb dX3_leastErasedFree_36 rfl (lv_at hl 1 rfl) ?_
            obtain ⟨i37, h⟩ := az_ite h
            refine va_iald (D := g.1) (f := (V 1)) hx hb hK hP 2 0 rfl rfl (az_vin i37) dX3_leastErasedFree_37 ?_
            refine lv_icmp_ge (tgt := 43) hx hb dX3_leastErasedFree_38 (by decide) (fun c38 => ?_) (fun c38 => ?_)
            · replace h := az_pos c38 h
              refine lv_iinc (v := y2 + (1 : Int32)) (lv' := [(2, .int (y2 + (1 : Int32))), (0, .ref (ad 1)), (1, .int y1)]) hx hb dX3_leastErasedFree_43 hl (k := 2) rfl (rfl) (by decide) rfl (fun ls hl => ?_)
              refine lv_goto (tgt := 4) hx hb dX3_leastErasedFree_46 (by decide) ?_
              have hP : va_P g.1 az_cl (az_cS g ad V) _ := hP
              have hD : va_D A (az_cS g ad V) := hD
              exact ih y1 (y2 + (1 : Int32)) _ _ ls h hP hD hS (lv_sub hl [1, 2, 0] rfl)
            · replace h := az_neg c38 h
              refine lv_iload_n hx hb dX3_leastErasedFree_41 rfl (lv_at hl 2 rfl) ?_
              refine lv_istore_n (lv' := [(1, .int y2), (0, .ref (ad 1)), (2, .int y2)]) hx hb dX3_leastErasedFree_42 rfl hl (by decide) rfl (fun ls hl => ?_)
              refine lv_iinc (v := y2 + (1 : Int32)) (lv' := [(2, .int (y2 + (1 : Int32))), (1, .int y2), (0, .ref (ad 1))]) hx hb dX3_leastErasedFree_43 hl (k := 2) rfl (rfl) (by decide) rfl (fun ls hl => ?_)
              refine lv_goto (tgt := 4) hx hb dX3_leastErasedFree_46 (by decide) ?_
              have hP : va_P g.1 az_cl (az_cS g ad V) _ := hP
              have hD : va_D A (az_cS g ad V) := hD
              exact ih y2 (y2 + (1 : Int32)) _ _ ls h hP hD hS (lv_sub hl [2, 1, 0] rfl)
  refine lv_iconst (v := (-1 : Int32)) hx hb dX3_leastErasedFree_0 (by decide) ?_
  refine lv_istore_n (lv' := [(1, .int (-1 : Int32)), (0, .ref (ad 1))]) hx hb dX3_leastErasedFree_1 rfl hl (by decide) rfl (fun ls hl => ?_)
  refine lv_iconst (v := (0 : Int32)) hx hb dX3_leastErasedFree_2 (by decide) ?_
  refine lv_istore_n (lv' := [(2, .int (0 : Int32)), (1, .int (-1 : Int32)), (0, .ref (ad 1))]) hx hb dX3_leastErasedFree_3 rfl hl (by decide) rfl (fun ls hl => ?_)
  have hP : va_P g.1 az_cl (az_cS g ad V) _ := hP
  have hD : va_D A (az_cS g ad V) := hD
  exact hL4 az_fuel (-1 : Int32) (0 : Int32) _ _ ls h hP hD hS (lv_sub hl [2, 1, 0] rfl)

def FX3_appendAt (V : az_St) (x1 : Int32) : Option (Int32 × (Nat → Int32) × (Nat → Int32) × (Nat → Int32)) := if az_in x1 2 = true then if (V 3) x1.toNatClampNeg = (-1 : Int32) then ((FX3_leastErasedFree V).bind (fun o13 => if o13 = (-1 : Int32) then (some ((-1 : Int32), (V 0), (V 2), (V 3))) else (if az_in o13 10 = true then az_lt (upd (V 2) o13.toNatClampNeg (((V 2) o13.toNatClampNeg) + (1 : Int32))) (fun u45 => if u45 o13.toNatClampNeg < (V 4) 1 then (some ((o13 * (16 : Int32)) + ((V 2) o13.toNatClampNeg), upd (V 0) o13.toNatClampNeg (1 : Int32), u45, upd (V 3) x1.toNatClampNeg o13)) else (some ((o13 * (16 : Int32)) + ((V 2) o13.toNatClampNeg), upd (V 0) o13.toNatClampNeg (2 : Int32), u45, upd (V 3) x1.toNatClampNeg (-1 : Int32)))) else none))) else (if (V 3) x1.toNatClampNeg = (-1 : Int32) then (some ((-1 : Int32), (V 0), (V 2), (V 3))) else (if az_in ((V 3) x1.toNatClampNeg) 10 = true then az_lt ((((V 3) x1.toNatClampNeg) * (16 : Int32)) + ((V 2) ((V 3) x1.toNatClampNeg).toNatClampNeg)) (fun z35 => az_lt (upd (V 2) ((V 3) x1.toNatClampNeg).toNatClampNeg (((V 2) ((V 3) x1.toNatClampNeg).toNatClampNeg) + (1 : Int32))) (fun u45 => if u45 ((V 3) x1.toNatClampNeg).toNatClampNeg < (V 4) 1 then (some (z35, upd (V 0) ((V 3) x1.toNatClampNeg).toNatClampNeg (1 : Int32), u45, upd (V 3) x1.toNatClampNeg ((V 3) x1.toNatClampNeg))) else (some (z35, upd (V 0) ((V 3) x1.toNatClampNeg).toNatClampNeg (2 : Int32), u45, upd (V 3) x1.toNatClampNeg (-1 : Int32))))) else none)) else none
theorem inX3_appendAt_RX3 : ∀ w ∈ wsX30, w ∈ wsX3_appendAt := az_inr [12, 13, 14, 15, 16, 17] (by decide +kernel)
set_option maxHeartbeats 4000000 in
set_option maxRecDepth 100000 in
theorem kX3_appendAt (l : Launch) (g : az_G) (ad : Nat → Nat) (V : az_St) (x1 : Int32) (o : Int32 × (Nat → Int32) × (Nat → Int32) × (Nat → Int32)) (h : FX3_appendAt V x1 = some o) : az_I l yX3_appendAt wsX3_appendAt ({ frames := 1, cells := 0, slots := 0, locals := 22 } : Room) [.ref (ad 1), .int x1] g (az_cS g ad V) o.1 (az_cS g ad (va_up (va_up (va_up V 0 o.2.1) 2 o.2.2.1) 3 o.2.2.2)) := by
  refine az_body (cc := cX3_appendAt) (maxL := 5) (ret := (some .int)) (Qc := fun A => az_QI g (az_cS g ad (va_up (va_up (va_up V 0 o.2.1) 2 o.2.2.1) 3 o.2.2.2)) o.1 A) (by decide +kernel) rfl (Nat.le_of_ble_eq_true rfl) ?_
  intro p e s m args below meth c A hx hb hr hts hown hml hlocks hA hK hP hD hS ls hl
  have hl : lv_has ls 5 [(0, .ref (ad 1)), (1, .int x1)] := hl
  unfold FX3_appendAt at h
  refine lv_aload_n hx hb dX3_appendAt_0 rfl (lv_at hl 0 rfl) ?_
  refine va_get (D := g.1) (ci := 3) (v := .ref (ad 5)) (C := RX3) (T := TX3) (N := 6) hx hb hts inX3_appendAt_RX3 hown hK hP 0 rfl rfl 3 (Nat.le_of_ble_eq_true rfl) (hts _ (List.mem_of_getElem? (i := 1) rfl)) (fun _ h9 => h9) rfl dX3_appendAt_1 ?_
  refine lv_iload_n hx hb dX3_appendAt_4 rfl (lv_at hl 1 rfl) ?_
  obtain ⟨i5, h⟩ := az_ite h
  refine va_iald (D := g.1) (f := (V 3)) hx hb hK hP 4 0 rfl rfl (az_vin i5) dX3_appendAt_5 ?_
  refine lv_istore_n (lv' := [(2, .int ((V 3) x1.toNatClampNeg)), (0, .ref (ad 1)), (1, .int x1)]) hx hb dX3_appendAt_6 rfl hl (by decide) rfl (fun ls hl => ?_)
  refine lv_iload_n hx hb dX3_appendAt_7 rfl (lv_at hl 0 rfl) ?_
  refine lv_iconst (v := (-1 : Int32)) hx hb dX3_appendAt_8 (by decide) ?_
  refine lv_icmp_ne (tgt := 17) hx hb dX3_appendAt_9 (by decide) (fun c9 => ?_) (fun c9 => ?_)
  · replace h := az_neg c9 h
    refine lv_iload_n hx hb dX3_appendAt_17 rfl (lv_at hl 0 rfl) ?_
    refine lv_iconst (v := (-1 : Int32)) hx hb dX3_appendAt_18 (by decide) ?_
    refine lv_icmp_ne (tgt := 24) hx hb dX3_appendAt_19 (by decide) (fun c19 => ?_) (fun c19 => ?_)
    · replace h := az_neg c19 h
      refine lv_iload_n hx hb dX3_appendAt_24 rfl (lv_at hl 0 rfl) ?_
      refine lv_bipush (v := (16 : Int32)) hx hb dX3_appendAt_25 (by decide) ?_
      refine lv_imul hx hb dX3_appendAt_27 ?_
      refine lv_aload_n hx hb dX3_appendAt_28 rfl (lv_at hl 1 rfl) ?_
      refine va_get (D := g.1) (ci := 3) (v := .ref (ad 4)) (C := RX3) (T := TX3) (N := 6) hx hb hts inX3_appendAt_RX3 hown hK hP 0 rfl rfl 2 (Nat.le_of_ble_eq_true rfl) (hts _ (List.mem_of_getElem? (i := 2) rfl)) (fun _ h9 => h9) rfl dX3_appendAt_29 ?_
      refine lv_iload_n hx hb dX3_appendAt_32 rfl (lv_at hl 0 rfl) ?_
      obtain ⟨i33, h⟩ := az_ite h
      refine va_iald (D := g.1) (f := (V 2)) hx hb hK hP 3 0 rfl rfl (az_vin i33) dX3_appendAt_33 ?_
      refine lv_iadd hx hb dX3_appendAt_34 ?_
      refine lv_topi (x := (((V 3) x1.toNatClampNeg) * (16 : Int32)) + ((V 2) ((V 3) x1.toNatClampNeg).toNatClampNeg)) (fun z35 e35 => ?_)
      replace h := az_let e35 h
      refine lv_istore_n (lv' := [(3, .int z35), (2, .int ((V 3) x1.toNatClampNeg)), (0, .ref (ad 1)), (1, .int x1)]) hx hb dX3_appendAt_35 rfl hl (by decide) rfl (fun ls hl => ?_)
      refine lv_aload_n hx hb dX3_appendAt_36 rfl (lv_at hl 2 rfl) ?_
      refine va_get (D := g.1) (ci := 3) (v := .ref (ad 4)) (C := RX3) (T := TX3) (N := 6) hx hb hts inX3_appendAt_RX3 hown hK hP 0 rfl rfl 2 (Nat.le_of_ble_eq_true rfl) (hts _ (List.mem_of_getElem? (i := 2) rfl)) (fun _ h9 => h9) rfl dX3_appendAt_37 ?_
      refine lv_iload_n hx hb dX3_appendAt_40 rfl (lv_at hl 1 rfl) ?_
      refine lv_dup2_11 hx hb dX3_appendAt_41 rfl rfl ?_
      refine va_iald (D := g.1) (f := (V 2)) hx hb hK hP 3 0 rfl rfl (az_vin i33) dX3_appendAt_42 ?_
      refine lv_iconst (v := (1 : Int32)) hx hb dX3_appendAt_43 (by decide) ?_
      refine lv_iadd hx hb dX3_appendAt_44 ?_
      refine va_iast (D := g.1) (f := (V 2)) hx hb hK hP hD hS 3 0 rfl rfl (az_vin i33) dX3_appendAt_45 (fun H locs hP hD hS => ?_)
      obtain ⟨u45, e45⟩ : ∃ w : Nat → Int32, w = upd (V 2) ((V 3) x1.toNatClampNeg).toNatClampNeg (((V 2) ((V 3) x1.toNatClampNeg).toNatClampNeg) + (1 : Int32)) := ⟨_, rfl⟩
      have hP : va_P g.1 az_cl (az_cS g ad (va_up V 2 u45)) H := by rw [e45]; exact hP
      have hD : va_D A (az_cS g ad (va_up V 2 u45)) := by rw [e45]; exact hD
      replace h := az_let e45 h
      refine lv_aload_n hx hb dX3_appendAt_46 rfl (lv_at hl 2 rfl) ?_
      refine va_get (D := g.1) (ci := 3) (v := .ref (ad 4)) (C := RX3) (T := TX3) (N := 6) hx hb hts inX3_appendAt_RX3 hown hK hP 0 rfl rfl 2 (Nat.le_of_ble_eq_true rfl) (hts _ (List.mem_of_getElem? (i := 2) rfl)) (fun _ h9 => h9) rfl dX3_appendAt_47 ?_
      refine lv_iload_n hx hb dX3_appendAt_50 rfl (lv_at hl 1 rfl) ?_
      refine va_iald (D := g.1) (f := u45) hx hb hK hP 3 0 rfl rfl (az_vin i33) dX3_appendAt_51 ?_
      refine lv_aload_n hx hb dX3_appendAt_52 rfl (lv_at hl 2 rfl) ?_
      refine va_get (D := g.1) (ci := 3) (v := .int ((V 4) 1)) (C := RX3) (T := TX3) (N := 6) hx hb hts inX3_appendAt_RX3 hown hK hP 0 rfl rfl 5 (Nat.le_of_ble_eq_true rfl) (hts _ (List.mem_of_getElem? (i := 3) rfl)) (fun _ h9 => h9) rfl dX3_appendAt_53 ?_
      refine lv_icmp_lt (tgt := 63) hx hb dX3_appendAt_56 (by decide) (fun c56 => ?_) (fun c56 => ?_)
      · replace h := az_pos c56 h
        refine lv_iconst (v := (0 : Int32)) hx hb dX3_appendAt_63 (by decide) ?_
        refine lv_istore (lv' := [(4, .int (0 : Int32)), (3, .int z35), (2, .int ((V 3) x1.toNatClampNeg)), (0, .ref (ad 1)), (1, .int x1)]) hx hb dX3_appendAt_64 hl (by decide) rfl (fun ls hl => ?_)
        refine lv_aload_n hx hb dX3_appendAt_66 rfl (lv_at hl 3 rfl) ?_
        refine va_get (D := g.1) (ci := 3) (v := .ref (ad 2)) (C := RX3) (T := TX3) (N := 6) hx hb hts inX3_appendAt_RX3 hown hK hP 0 rfl rfl 0 (Nat.le_of_ble_eq_true rfl) (hts _ (List.mem_of_getElem? (i := 4) rfl)) (fun _ h9 => h9) rfl dX3_appendAt_67 ?_
        refine lv_iload_n hx hb dX3_appendAt_70 rfl (lv_at hl 2 rfl) ?_
        refine lv_iload hx hb dX3_appendAt_71 (lv_at hl 0 rfl) ?_
        refine lv_if_eq (tgt := 80) hx hb dX3_appendAt_73 (by decide) (fun _ => ?_) (fun c9 => absurd (by decide) c9)
        refine lv_iconst (v := (1 : Int32)) hx hb dX3_appendAt_80 (by decide) ?_
        refine va_iast (D := g.1) (f := (V 0)) hx hb hK hP hD hS 1 0 rfl rfl (az_vin i33) dX3_appendAt_81 (fun H locs hP hD hS => ?_)
        have hP : va_P g.1 az_cl (az_cS g ad (va_up (va_up V 0 (upd (V 0) ((V 3) x1.toNatClampNeg).toNatClampNeg (1 : Int32))) 2 u45)) _ := hP
        have hD : va_D A (az_cS g ad (va_up (va_up V 0 (upd (V 0) ((V 3) x1.toNatClampNeg).toNatClampNeg (1 : Int32))) 2 u45)) := hD
        refine lv_aload_n hx hb dX3_appendAt_82 rfl (lv_at hl 3 rfl) ?_
        refine va_get (D := g.1) (ci := 3) (v := .ref (ad 5)) (C := RX3) (T := TX3) (N := 6) hx hb hts inX3_appendAt_RX3 hown hK hP 0 rfl rfl 3 (Nat.le_of_ble_eq_true rfl) (hts _ (List.mem_of_getElem? (i := 1) rfl)) (fun _ h9 => h9) rfl dX3_appendAt_83 ?_
        refine lv_iload_n hx hb dX3_appendAt_86 rfl (lv_at hl 4 rfl) ?_
        refine lv_iload hx hb dX3_appendAt_87 (lv_at hl 0 rfl) ?_
        refine lv_if_eq (tgt := 96) hx hb dX3_appendAt_89 (by decide) (fun _ => ?_) (fun c9 => absurd (by decide) c9)
        refine lv_iload_n hx hb dX3_appendAt_96 rfl (lv_at hl 2 rfl) ?_
        refine va_iast (D := g.1) (f := (V 3)) hx hb hK hP hD hS 4 0 rfl rfl (az_vin i5) dX3_appendAt_97 (fun H locs hP hD hS => ?_)
        have hP : va_P g.1 az_cl (az_cS g ad (va_up (va_up (va_up V 0 (upd (V 0) ((V 3) x1.toNatClampNeg).toNatClampNeg (1 : Int32))) 2 u45) 3 (upd (V 3) x1.toNatClampNeg ((V 3) x1.toNatClampNeg)))) _ := hP
        have hD : va_D A (az_cS g ad (va_up (va_up (va_up V 0 (upd (V 0) ((V 3) x1.toNatClampNeg).toNatClampNeg (1 : Int32))) 2 u45) 3 (upd (V 3) x1.toNatClampNeg ((V 3) x1.toNatClampNeg)))) := hD
        refine lv_iload_n hx hb dX3_appendAt_98 rfl (lv_at hl 1 rfl) ?_
        have hP : va_P g.1 az_cl (az_cS g ad (va_up (va_up (va_up V 0 (upd (V 0) ((V 3) x1.toNatClampNeg).toNatClampNeg (1 : Int32))) 2 u45) 3 (upd (V 3) x1.toNatClampNeg ((V 3) x1.toNatClampNeg)))) _ := hP
        have hD : va_D A (az_cS g ad (va_up (va_up (va_up V 0 (upd (V 0) ((V 3) x1.toNatClampNeg).toNatClampNeg (1 : Int32))) 2 u45) 3 (upd (V 3) x1.toNatClampNeg ((V 3) x1.toNatClampNeg)))) := hD
        rw [← Option.some.inj h]
        exact az_iret hx hb hr hlocks hK hP hD hS dX3_appendAt_99
      · replace h := az_neg c56 h
        refine lv_iconst (v := (1 : Int32)) hx hb dX3_appendAt_59 (by decide) ?_
        refine lv_goto (tgt := 64) hx hb dX3_appendAt_60 (by decide) ?_
        refine lv_istore (lv' := [(4, .int (1 : Int32)), (3, .int z35), (2, .int ((V 3) x1.toNatClampNeg)), (0, .ref (ad 1)), (1, .int x1)]) hx hb dX3_appendAt_64 hl (by decide) rfl (fun ls hl => ?_)
        refine lv_aload_n hx hb dX3_appendAt_66 rfl (lv_at hl 3 rfl) ?_
        refine va_get (D := g.1) (ci := 3) (v := .ref (ad 2)) (C := RX3) (T := TX3) (N := 6) hx hb hts inX3_appendAt_RX3 hown hK hP 0 rfl rfl 0 (Nat.le_of_ble_eq_true rfl) (hts _ (List.mem_of_getElem? (i := 4) rfl)) (fun _ h9 => h9) rfl dX3_appendAt_67 ?_
        refine lv_iload_n hx hb dX3_appendAt_70 rfl (lv_at hl 2 rfl) ?_
        refine lv_iload hx hb dX3_appendAt_71 (lv_at hl 0 rfl) ?_
        refine lv_if_eq (tgt := 80) hx hb dX3_appendAt_73 (by decide) (fun c9 => absurd c9 (by decide)) (fun _ => ?_)
        refine lv_iconst (v := (2 : Int32)) hx hb dX3_appendAt_76 (by decide) ?_
        refine lv_goto (tgt := 81) hx hb dX3_appendAt_77 (by decide) ?_
        refine va_iast (D := g.1) (f := (V 0)) hx hb hK hP hD hS 1 0 rfl rfl (az_vin i33) dX3_appendAt_81 (fun H locs hP hD hS => ?_)
        have hP : va_P g.1 az_cl (az_cS g ad (va_up (va_up V 0 (upd (V 0) ((V 3) x1.toNatClampNeg).toNatClampNeg (2 : Int32))) 2 u45)) _ := hP
        have hD : va_D A (az_cS g ad (va_up (va_up V 0 (upd (V 0) ((V 3) x1.toNatClampNeg).toNatClampNeg (2 : Int32))) 2 u45)) := hD
        refine lv_aload_n hx hb dX3_appendAt_82 rfl (lv_at hl 3 rfl) ?_
        refine va_get (D := g.1) (ci := 3) (v := .ref (ad 5)) (C := RX3) (T := TX3) (N := 6) hx hb hts inX3_appendAt_RX3 hown hK hP 0 rfl rfl 3 (Nat.le_of_ble_eq_true rfl) (hts _ (List.mem_of_getElem? (i := 1) rfl)) (fun _ h9 => h9) rfl dX3_appendAt_83 ?_
        refine lv_iload_n hx hb dX3_appendAt_86 rfl (lv_at hl 4 rfl) ?_
        refine lv_iload hx hb dX3_appendAt_87 (lv_at hl 0 rfl) ?_
        refine lv_if_eq (tgt := 96) hx hb dX3_appendAt_89 (by decide) (fun c9 => absurd c9 (by decide)) (fun _ => ?_)
        refine lv_iconst (v := (-1 : Int32)) hx hb dX3_appendAt_92 (by decide) ?_
        refine lv_goto (tgt := 97) hx hb dX3_appendAt_93 (by decide) ?_
        refine va_iast (D := g.1) (f := (V 3)) hx hb hK hP hD hS 4 0 rfl rfl (az_vin i5) dX3_appendAt_97 (fun H locs hP hD hS => ?_)
        have hP : va_P g.1 az_cl (az_cS g ad (va_up (va_up (va_up V 0 (upd (V 0) ((V 3) x1.toNatClampNeg).toNatClampNeg (2 : Int32))) 2 u45) 3 (upd (V 3) x1.toNatClampNeg (-1 : Int32)))) _ := hP
        have hD : va_D A (az_cS g ad (va_up (va_up (va_up V 0 (upd (V 0) ((V 3) x1.toNatClampNeg).toNatClampNeg (2 : Int32))) 2 u45) 3 (upd (V 3) x1.toNatClampNeg (-1 : Int32)))) := hD
        refine lv_iload_n hx hb dX3_appendAt_98 rfl (lv_at hl 1 rfl) ?_
        have hP : va_P g.1 az_cl (az_cS g ad (va_up (va_up (va_up V 0 (upd (V 0) ((V 3) x1.toNatClampNeg).toNatClampNeg (2 : Int32))) 2 u45) 3 (upd (V 3) x1.toNatClampNeg (-1 : Int32)))) _ := hP
        have hD : va_D A (az_cS g ad (va_up (va_up (va_up V 0 (upd (V 0) ((V 3) x1.toNatClampNeg).toNatClampNeg (2 : Int32))) 2 u45) 3 (upd (V 3) x1.toNatClampNeg (-1 : Int32)))) := hD
        rw [← Option.some.inj h]
        exact az_iret hx hb hr hlocks hK hP hD hS dX3_appendAt_99
    · replace h := az_pos c19 h
      refine lv_iconst (v := (-1 : Int32)) hx hb dX3_appendAt_22 (by decide) ?_
      have hP : va_P g.1 az_cl (az_cS g ad (va_up (va_up (va_up V 0 (V 0)) 2 (V 2)) 3 (V 3))) _ := hP
      have hD : va_D A (az_cS g ad (va_up (va_up (va_up V 0 (V 0)) 2 (V 2)) 3 (V 3))) := hD
      rw [← Option.some.inj h]
      exact az_iret hx hb hr hlocks hK hP hD hS dX3_appendAt_23
  · replace h := az_pos c9 h
    refine lv_aload_n hx hb dX3_appendAt_12 rfl (lv_at hl 1 rfl) ?_
    obtain ⟨o13, hc13, h⟩ := az_bnd h
    refine az_callVi (w2 := az_cS g ad V) (As := []) (rest := []) ⟨hx, hb, hml, hown, hts⟩ hl.1 (kX3_leastErasedFree l g ad V o13 hc13) (cwV 0 hts gX3_appendAt_X3_leastErasedFree rfl rfl rfl (by decide +kernel) ⟨Nat.le_of_ble_eq_true rfl, Nat.le_of_ble_eq_true rfl⟩) rfl hK hP hD hS hA [0, 1, 2, 3, 4] [] [0, 1, 2, 3, 4] rfl rfl rfl rfl rfl (by decide) rfl rfl rfl 0 rfl rfl rfl (Nat.le_of_ble_eq_true rfl) dX3_appendAt_13 ⟨Nat.zero_le _, Nat.zero_le _⟩ rfl (fun H locs hP hD hS => ?_)
    refine lv_istore_n (lv' := [(2, .int o13), (0, .ref (ad 1)), (1, .int x1)]) hx hb dX3_appendAt_16 rfl hl (by decide) rfl (fun ls hl => ?_)
    refine lv_iload_n hx hb dX3_appendAt_17 rfl (lv_at hl 0 rfl) ?_
    refine lv_iconst (v := (-1 : Int32)) hx hb dX3_appendAt_18 (by decide) ?_
    refine lv_icmp_ne (tgt := 24) hx hb dX3_appendAt_19 (by decide) (fun c19 => ?_) (fun c19 => ?_)
    · replace h := az_neg c19 h
      refine lv_iload_n hx hb dX3_appendAt_24 rfl (lv_at hl 0 rfl) ?_
      refine lv_bipush (v := (16 : Int32)) hx hb dX3_appendAt_25 (by decide) ?_
      refine lv_imul hx hb dX3_appendAt_27 ?_
      refine lv_aload_n hx hb dX3_appendAt_28 rfl (lv_at hl 1 rfl) ?_
      refine va_get (D := g.1) (ci := 3) (v := .ref (ad 4)) (C := RX3) (T := TX3) (N := 6) hx hb hts inX3_appendAt_RX3 hown hK hP 0 rfl rfl 2 (Nat.le_of_ble_eq_true rfl) (hts _ (List.mem_of_getElem? (i := 2) rfl)) (fun _ h9 => h9) rfl dX3_appendAt_29 ?_
      refine lv_iload_n hx hb dX3_appendAt_32 rfl (lv_at hl 0 rfl) ?_
      obtain ⟨i33, h⟩ := az_ite h
      refine va_iald (D := g.1) (f := (V 2)) hx hb hK hP 3 0 rfl rfl (az_vin i33) dX3_appendAt_33 ?_
      refine lv_iadd hx hb dX3_appendAt_34 ?_
      refine lv_istore_n (lv' := [(3, .int ((o13 * (16 : Int32)) + ((V 2) o13.toNatClampNeg))), (2, .int o13), (0, .ref (ad 1)), (1, .int x1)]) hx hb dX3_appendAt_35 rfl hl (by decide) rfl (fun ls hl => ?_)
      refine lv_aload_n hx hb dX3_appendAt_36 rfl (lv_at hl 2 rfl) ?_
      refine va_get (D := g.1) (ci := 3) (v := .ref (ad 4)) (C := RX3) (T := TX3) (N := 6) hx hb hts inX3_appendAt_RX3 hown hK hP 0 rfl rfl 2 (Nat.le_of_ble_eq_true rfl) (hts _ (List.mem_of_getElem? (i := 2) rfl)) (fun _ h9 => h9) rfl dX3_appendAt_37 ?_
      refine lv_iload_n hx hb dX3_appendAt_40 rfl (lv_at hl 1 rfl) ?_
      refine lv_dup2_11 hx hb dX3_appendAt_41 rfl rfl ?_
      refine va_iald (D := g.1) (f := (V 2)) hx hb hK hP 3 0 rfl rfl (az_vin i33) dX3_appendAt_42 ?_
      refine lv_iconst (v := (1 : Int32)) hx hb dX3_appendAt_43 (by decide) ?_
      refine lv_iadd hx hb dX3_appendAt_44 ?_
      refine va_iast (D := g.1) (f := (V 2)) hx hb hK hP hD hS 3 0 rfl rfl (az_vin i33) dX3_appendAt_45 (fun H locs hP hD hS => ?_)
      obtain ⟨u45, e45⟩ : ∃ w : Nat → Int32, w = upd (V 2) o13.toNatClampNeg (((V 2) o13.toNatClampNeg) + (1 : Int32)) := ⟨_, rfl⟩
      have hP : va_P g.1 az_cl (az_cS g ad (va_up V 2 u45)) H := by rw [e45]; exact hP
      have hD : va_D A (az_cS g ad (va_up V 2 u45)) := by rw [e45]; exact hD
      replace h := az_let e45 h
      refine lv_aload_n hx hb dX3_appendAt_46 rfl (lv_at hl 2 rfl) ?_
      refine va_get (D := g.1) (ci := 3) (v := .ref (ad 4)) (C := RX3) (T := TX3) (N := 6) hx hb hts inX3_appendAt_RX3 hown hK hP 0 rfl rfl 2 (Nat.le_of_ble_eq_true rfl) (hts _ (List.mem_of_getElem? (i := 2) rfl)) (fun _ h9 => h9) rfl dX3_appendAt_47 ?_
      refine lv_iload_n hx hb dX3_appendAt_50 rfl (lv_at hl 1 rfl) ?_
      refine va_iald (D := g.1) (f := u45) hx hb hK hP 3 0 rfl rfl (az_vin i33) dX3_appendAt_51 ?_
      refine lv_aload_n hx hb dX3_appendAt_52 rfl (lv_at hl 2 rfl) ?_
      refine va_get (D := g.1) (ci := 3) (v := .int ((V 4) 1)) (C := RX3) (T := TX3) (N := 6) hx hb hts inX3_appendAt_RX3 hown hK hP 0 rfl rfl 5 (Nat.le_of_ble_eq_true rfl) (hts _ (List.mem_of_getElem? (i := 3) rfl)) (fun _ h9 => h9) rfl dX3_appendAt_53 ?_
      refine lv_icmp_lt (tgt := 63) hx hb dX3_appendAt_56 (by decide) (fun c56 => ?_) (fun c56 => ?_)
      · replace h := az_pos c56 h
        refine lv_iconst (v := (0 : Int32)) hx hb dX3_appendAt_63 (by decide) ?_
        refine lv_istore (lv' := [(4, .int (0 : Int32)), (3, .int ((o13 * (16 : Int32)) + ((V 2) o13.toNatClampNeg))), (2, .int o13), (0, .ref (ad 1)), (1, .int x1)]) hx hb dX3_appendAt_64 hl (by decide) rfl (fun ls hl => ?_)
        refine lv_aload_n hx hb dX3_appendAt_66 rfl (lv_at hl 3 rfl) ?_
        refine va_get (D := g.1) (ci := 3) (v := .ref (ad 2)) (C := RX3) (T := TX3) (N := 6) hx hb hts inX3_appendAt_RX3 hown hK hP 0 rfl rfl 0 (Nat.le_of_ble_eq_true rfl) (hts _ (List.mem_of_getElem? (i := 4) rfl)) (fun _ h9 => h9) rfl dX3_appendAt_67 ?_
        refine lv_iload_n hx hb dX3_appendAt_70 rfl (lv_at hl 2 rfl) ?_
        refine lv_iload hx hb dX3_appendAt_71 (lv_at hl 0 rfl) ?_
        refine lv_if_eq (tgt := 80) hx hb dX3_appendAt_73 (by decide) (fun _ => ?_) (fun c9 => absurd (by decide) c9)
        refine lv_iconst (v := (1 : Int32)) hx hb dX3_appendAt_80 (by decide) ?_
        refine va_iast (D := g.1) (f := (V 0)) hx hb hK hP hD hS 1 0 rfl rfl (az_vin i33) dX3_appendAt_81 (fun H locs hP hD hS => ?_)
        have hP : va_P g.1 az_cl (az_cS g ad (va_up (va_up V 0 (upd (V 0) o13.toNatClampNeg (1 : Int32))) 2 u45)) _ := hP
        have hD : va_D A (az_cS g ad (va_up (va_up V 0 (upd (V 0) o13.toNatClampNeg (1 : Int32))) 2 u45)) := hD
        refine lv_aload_n hx hb dX3_appendAt_82 rfl (lv_at hl 3 rfl) ?_
        refine va_get (D := g.1) (ci := 3) (v := .ref (ad 5)) (C := RX3) (T := TX3) (N := 6) hx hb hts inX3_appendAt_RX3 hown hK hP 0 rfl rfl 3 (Nat.le_of_ble_eq_true rfl) (hts _ (List.mem_of_getElem? (i := 1) rfl)) (fun _ h9 => h9) rfl dX3_appendAt_83 ?_
        refine lv_iload_n hx hb dX3_appendAt_86 rfl (lv_at hl 4 rfl) ?_
        refine lv_iload hx hb dX3_appendAt_87 (lv_at hl 0 rfl) ?_
        refine lv_if_eq (tgt := 96) hx hb dX3_appendAt_89 (by decide) (fun _ => ?_) (fun c9 => absurd (by decide) c9)
        refine lv_iload_n hx hb dX3_appendAt_96 rfl (lv_at hl 2 rfl) ?_
        refine va_iast (D := g.1) (f := (V 3)) hx hb hK hP hD hS 4 0 rfl rfl (az_vin i5) dX3_appendAt_97 (fun H locs hP hD hS => ?_)
        have hP : va_P g.1 az_cl (az_cS g ad (va_up (va_up (va_up V 0 (upd (V 0) o13.toNatClampNeg (1 : Int32))) 2 u45) 3 (upd (V 3) x1.toNatClampNeg o13))) _ := hP
        have hD : va_D A (az_cS g ad (va_up (va_up (va_up V 0 (upd (V 0) o13.toNatClampNeg (1 : Int32))) 2 u45) 3 (upd (V 3) x1.toNatClampNeg o13))) := hD
        refine lv_iload_n hx hb dX3_appendAt_98 rfl (lv_at hl 1 rfl) ?_
        have hP : va_P g.1 az_cl (az_cS g ad (va_up (va_up (va_up V 0 (upd (V 0) o13.toNatClampNeg (1 : Int32))) 2 u45) 3 (upd (V 3) x1.toNatClampNeg o13))) _ := hP
        have hD : va_D A (az_cS g ad (va_up (va_up (va_up V 0 (upd (V 0) o13.toNatClampNeg (1 : Int32))) 2 u45) 3 (upd (V 3) x1.toNatClampNeg o13))) := hD
        rw [← Option.some.inj h]
        exact az_iret hx hb hr hlocks hK hP hD hS dX3_appendAt_99
      · replace h := az_neg c56 h
        refine lv_iconst (v := (1 : Int32)) hx hb dX3_appendAt_59 (by decide) ?_
        refine lv_goto (tgt := 64) hx hb dX3_appendAt_60 (by decide) ?_
        refine lv_istore (lv' := [(4, .int (1 : Int32)), (3, .int ((o13 * (16 : Int32)) + ((V 2) o13.toNatClampNeg))), (2, .int o13), (0, .ref (ad 1)), (1, .int x1)]) hx hb dX3_appendAt_64 hl (by decide) rfl (fun ls hl => ?_)
        refine lv_aload_n hx hb dX3_appendAt_66 rfl (lv_at hl 3 rfl) ?_
        refine va_get (D := g.1) (ci := 3) (v := .ref (ad 2)) (C := RX3) (T := TX3) (N := 6) hx hb hts inX3_appendAt_RX3 hown hK hP 0 rfl rfl 0 (Nat.le_of_ble_eq_true rfl) (hts _ (List.mem_of_getElem? (i := 4) rfl)) (fun _ h9 => h9) rfl dX3_appendAt_67 ?_
        refine lv_iload_n hx hb dX3_appendAt_70 rfl (lv_at hl 2 rfl) ?_
        refine lv_iload hx hb dX3_appendAt_71 (lv_at hl 0 rfl) ?_
        refine lv_if_eq (tgt := 80) hx hb dX3_appendAt_73 (by decide) (fun c9 => absurd c9 (by decide)) (fun _ => ?_)
        refine lv_iconst (v := (2 : Int32)) hx hb dX3_appendAt_76 (by decide) ?_
        refine lv_goto (tgt := 81) hx hb dX3_appendAt_77 (by decide) ?_
        refine va_iast (D := g.1) (f := (V 0)) hx hb hK hP hD hS 1 0 rfl rfl (az_vin i33) dX3_appendAt_81 (fun H locs hP hD hS => ?_)
        have hP : va_P g.1 az_cl (az_cS g ad (va_up (va_up V 0 (upd (V 0) o13.toNatClampNeg (2 : Int32))) 2 u45)) _ := hP
        have hD : va_D A (az_cS g ad (va_up (va_up V 0 (upd (V 0) o13.toNatClampNeg (2 : Int32))) 2 u45)) := hD
        refine lv_aload_n hx hb dX3_appendAt_82 rfl (lv_at hl 3 rfl) ?_
        refine va_get (D := g.1) (ci := 3) (v := .ref (ad 5)) (C := RX3) (T := TX3) (N := 6) hx hb hts inX3_appendAt_RX3 hown hK hP 0 rfl rfl 3 (Nat.le_of_ble_eq_true rfl) (hts _ (List.mem_of_getElem? (i := 1) rfl)) (fun _ h9 => h9) rfl dX3_appendAt_83 ?_
        refine lv_iload_n hx hb dX3_appendAt_86 rfl (lv_at hl 4 rfl) ?_
        refine lv_iload hx hb dX3_appendAt_87 (lv_at hl 0 rfl) ?_
        refine lv_if_eq (tgt := 96) hx hb dX3_appendAt_89 (by decide) (fun c9 => absurd c9 (by decide)) (fun _ => ?_)
        refine lv_iconst (v := (-1 : Int32)) hx hb dX3_appendAt_92 (by decide) ?_
        refine lv_goto (tgt := 97) hx hb dX3_appendAt_93 (by decide) ?_
        refine va_iast (D := g.1) (f := (V 3)) hx hb hK hP hD hS 4 0 rfl rfl (az_vin i5) dX3_appendAt_97 (fun H locs hP hD hS => ?_)
        have hP : va_P g.1 az_cl (az_cS g ad (va_up (va_up (va_up V 0 (upd (V 0) o13.toNatClampNeg (2 : Int32))) 2 u45) 3 (upd (V 3) x1.toNatClampNeg (-1 : Int32)))) _ := hP
        have hD : va_D A (az_cS g ad (va_up (va_up (va_up V 0 (upd (V 0) o13.toNatClampNeg (2 : Int32))) 2 u45) 3 (upd (V 3) x1.toNatClampNeg (-1 : Int32)))) := hD
        refine lv_iload_n hx hb dX3_appendAt_98 rfl (lv_at hl 1 rfl) ?_
        have hP : va_P g.1 az_cl (az_cS g ad (va_up (va_up (va_up V 0 (upd (V 0) o13.toNatClampNeg (2 : Int32))) 2 u45) 3 (upd (V 3) x1.toNatClampNeg (-1 : Int32)))) _ := hP
        have hD : va_D A (az_cS g ad (va_up (va_up (va_up V 0 (upd (V 0) o13.toNatClampNeg (2 : Int32))) 2 u45) 3 (upd (V 3) x1.toNatClampNeg (-1 : Int32)))) := hD
        rw [← Option.some.inj h]
        exact az_iret hx hb hr hlocks hK hP hD hS dX3_appendAt_99
    · replace h := az_pos c19 h
      refine lv_iconst (v := (-1 : Int32)) hx hb dX3_appendAt_22 (by decide) ?_
      have hP : va_P g.1 az_cl (az_cS g ad (va_up (va_up (va_up V 0 (V 0)) 2 (V 2)) 3 (V 3))) _ := hP
      have hD : va_D A (az_cS g ad (va_up (va_up (va_up V 0 (V 0)) 2 (V 2)) 3 (V 3))) := hD
      rw [← Option.some.inj h]
      exact az_iret hx hb hr hlocks hK hP hD hS dX3_appendAt_23

def FX3_erase (V : az_St) (x1 : Int32) : Option ((Nat → Int32) × (Nat → Int32) × (Nat → Int32)) := if az_in x1 10 = true then az_lt (upd (V 1) x1.toNatClampNeg (((V 1) x1.toNatClampNeg) + (1 : Int32))) (fun u23 => some (upd (V 0) x1.toNatClampNeg (0 : Int32), u23, upd (V 2) x1.toNatClampNeg (0 : Int32))) else none
theorem inX3_erase_RX3 : ∀ w ∈ wsX30, w ∈ wsX3_erase := az_inr [4, 5, 6, 7, 8, 9] (by decide +kernel)
set_option maxHeartbeats 4000000 in
set_option maxRecDepth 100000 in
theorem kX3_erase (l : Launch) (g : az_G) (ad : Nat → Nat) (V : az_St) (x1 : Int32) (o : (Nat → Int32) × (Nat → Int32) × (Nat → Int32)) (h : FX3_erase V x1 = some o) : az_V l yX3_erase wsX3_erase ({ frames := 0, cells := 0, slots := 0, locals := 0 } : Room) [.ref (ad 1), .int x1] g (az_cS g ad V) (az_cS g ad (va_up (va_up (va_up V 0 o.1) 1 o.2.1) 2 o.2.2)) := by
  refine az_body (cc := cX3_erase) (maxL := 2) (ret := none) (Qc := fun A => az_QV g (az_cS g ad (va_up (va_up (va_up V 0 o.1) 1 o.2.1) 2 o.2.2)) A) (by decide +kernel) rfl (Nat.le_of_ble_eq_true rfl) ?_
  intro p e s m args below meth c A hx hb hr hts hown hml hlocks hA hK hP hD hS ls hl
  have hl : lv_has ls 2 [(0, .ref (ad 1)), (1, .int x1)] := hl
  unfold FX3_erase at h
  refine lv_aload_n hx hb dX3_erase_0 rfl (lv_at hl 0 rfl) ?_
  refine va_get (D := g.1) (ci := 3) (v := .ref (ad 2)) (C := RX3) (T := TX3) (N := 6) hx hb hts inX3_erase_RX3 hown hK hP 0 rfl rfl 0 (Nat.le_of_ble_eq_true rfl) (hts _ (List.mem_of_getElem? (i := 1) rfl)) (fun _ h9 => h9) rfl dX3_erase_1 ?_
  refine lv_iload_n hx hb dX3_erase_4 rfl (lv_at hl 1 rfl) ?_
  refine lv_iconst (v := (0 : Int32)) hx hb dX3_erase_5 (by decide) ?_
  obtain ⟨i6, h⟩ := az_ite h
  refine va_iast (D := g.1) (f := (V 0)) hx hb hK hP hD hS 1 0 rfl rfl (az_vin i6) dX3_erase_6 (fun H locs hP hD hS => ?_)
  have hP : va_P g.1 az_cl (az_cS g ad (va_up V 0 (upd (V 0) x1.toNatClampNeg (0 : Int32)))) _ := hP
  have hD : va_D A (az_cS g ad (va_up V 0 (upd (V 0) x1.toNatClampNeg (0 : Int32)))) := hD
  refine lv_aload_n hx hb dX3_erase_7 rfl (lv_at hl 0 rfl) ?_
  refine va_get (D := g.1) (ci := 3) (v := .ref (ad 4)) (C := RX3) (T := TX3) (N := 6) hx hb hts inX3_erase_RX3 hown hK hP 0 rfl rfl 2 (Nat.le_of_ble_eq_true rfl) (hts _ (List.mem_of_getElem? (i := 2) rfl)) (fun _ h9 => h9) rfl dX3_erase_8 ?_
  refine lv_iload_n hx hb dX3_erase_11 rfl (lv_at hl 1 rfl) ?_
  refine lv_iconst (v := (0 : Int32)) hx hb dX3_erase_12 (by decide) ?_
  refine va_iast (D := g.1) (f := (V 2)) hx hb hK hP hD hS 3 0 rfl rfl (az_vin i6) dX3_erase_13 (fun H locs hP hD hS => ?_)
  have hP : va_P g.1 az_cl (az_cS g ad (va_up (va_up V 0 (upd (V 0) x1.toNatClampNeg (0 : Int32))) 2 (upd (V 2) x1.toNatClampNeg (0 : Int32)))) _ := hP
  have hD : va_D A (az_cS g ad (va_up (va_up V 0 (upd (V 0) x1.toNatClampNeg (0 : Int32))) 2 (upd (V 2) x1.toNatClampNeg (0 : Int32)))) := hD
  refine lv_aload_n hx hb dX3_erase_14 rfl (lv_at hl 0 rfl) ?_
  refine va_get (D := g.1) (ci := 3) (v := .ref (ad 3)) (C := RX3) (T := TX3) (N := 6) hx hb hts inX3_erase_RX3 hown hK hP 0 rfl rfl 1 (Nat.le_of_ble_eq_true rfl) (hts _ (List.mem_of_getElem? (i := 3) rfl)) (fun _ h9 => h9) rfl dX3_erase_15 ?_
  refine lv_iload_n hx hb dX3_erase_18 rfl (lv_at hl 1 rfl) ?_
  refine lv_dup2_11 hx hb dX3_erase_19 rfl rfl ?_
  refine va_iald (D := g.1) (f := (V 1)) hx hb hK hP 2 0 rfl rfl (az_vin i6) dX3_erase_20 ?_
  refine lv_iconst (v := (1 : Int32)) hx hb dX3_erase_21 (by decide) ?_
  refine lv_iadd hx hb dX3_erase_22 ?_
  refine va_iast (D := g.1) (f := (V 1)) hx hb hK hP hD hS 2 0 rfl rfl (az_vin i6) dX3_erase_23 (fun H locs hP hD hS => ?_)
  obtain ⟨u23, e23⟩ : ∃ w : Nat → Int32, w = upd (V 1) x1.toNatClampNeg (((V 1) x1.toNatClampNeg) + (1 : Int32)) := ⟨_, rfl⟩
  have hP : va_P g.1 az_cl (az_cS g ad (va_up (va_up (va_up V 0 (upd (V 0) x1.toNatClampNeg (0 : Int32))) 1 u23) 2 (upd (V 2) x1.toNatClampNeg (0 : Int32)))) H := by rw [e23]; exact hP
  have hD : va_D A (az_cS g ad (va_up (va_up (va_up V 0 (upd (V 0) x1.toNatClampNeg (0 : Int32))) 1 u23) 2 (upd (V 2) x1.toNatClampNeg (0 : Int32)))) := by rw [e23]; exact hD
  replace h := az_let e23 h
  have hP : va_P g.1 az_cl (az_cS g ad (va_up (va_up (va_up V 0 (upd (V 0) x1.toNatClampNeg (0 : Int32))) 1 u23) 2 (upd (V 2) x1.toNatClampNeg (0 : Int32)))) _ := hP
  have hD : va_D A (az_cS g ad (va_up (va_up (va_up V 0 (upd (V 0) x1.toNatClampNeg (0 : Int32))) 1 u23) 2 (upd (V 2) x1.toNatClampNeg (0 : Int32)))) := hD
  rw [← Option.some.inj h]
  exact az_vret hx hb hr hlocks hK hP hD hS dX3_erase_24

def FX4_forget_L9 : Nat → az_St → Int32 → (Nat → Int32) → (Nat → Int32) → Int32 → Option ((Nat → Int32) × (Nat → Int32))
  | 0, _, _, _, _, _ => none
  | n + 1, V, x1, wV13, wV14, y2 => if (24 : Int32) ≤ y2 then (some (wV13, wV14)) else (if az_in ((x1 * (24 : Int32)) + y2) 96 = true then az_lt (upd wV14 ((x1 * (24 : Int32)) + y2).toNatClampNeg (-1 : Int32)) (fun u26 => FX4_forget_L9 n V x1 wV13 u26 (y2 + (1 : Int32))) else none)
theorem FX4_forget_L9_s (n : Nat) (V : az_St) (x1 : Int32) (wV13 : Nat → Int32) (wV14 : Nat → Int32) (y2 : Int32) : FX4_forget_L9 (n + 1) V x1 wV13 wV14 y2 = (if (24 : Int32) ≤ y2 then (some (wV13, wV14)) else (if az_in ((x1 * (24 : Int32)) + y2) 96 = true then az_lt (upd wV14 ((x1 * (24 : Int32)) + y2).toNatClampNeg (-1 : Int32)) (fun u26 => FX4_forget_L9 n V x1 wV13 u26 (y2 + (1 : Int32))) else none)) := rfl
def FX4_forget (V : az_St) (x1 : Int32) : Option ((Nat → Int32) × (Nat → Int32)) := if az_in x1 4 = true then FX4_forget_L9 az_fuel V x1 (upd (V 13) x1.toNatClampNeg (vp_nar .boolean (0 : Int32))) (V 14) (0 : Int32) else none
theorem inX4_forget_RX4 : ∀ w ∈ wsX40, w ∈ wsX4_forget := az_inr [3, 4] (by decide +kernel)
set_option maxHeartbeats 4000000 in
set_option maxRecDepth 100000 in
theorem kX4_forget (l : Launch) (g : az_G) (ad : Nat → Nat) (V : az_St) (x1 : Int32) (o : (Nat → Int32) × (Nat → Int32)) (h : FX4_forget V x1 = some o) : az_V l yX4_forget wsX4_forget ({ frames := 0, cells := 0, slots := 0, locals := 0 } : Room) [.ref (ad 16), .int x1] g (az_cP g ad V) (az_cP g ad (va_up (va_up V 13 o.1) 14 o.2)) := by
  refine az_body (cc := cX4_forget) (maxL := 3) (ret := none) (Qc := fun A => az_QV g (az_cP g ad (va_up (va_up V 13 o.1) 14 o.2)) A) (by decide +kernel) rfl (Nat.le_of_ble_eq_true rfl) ?_
  intro p e s m args below meth c A hx hb hr hts hown hml hlocks hA hK hP hD hS ls hl
  have hl : lv_has ls 3 [(0, .ref (ad 16)), (1, .int x1)] := hl
  unfold FX4_forget at h
  have hL9 : ∀ (n : Nat) (wV13 : Nat → Int32) (wV14 : Nat → Int32) (y2 : Int32) (H : Heap) (locs : List Loc) (ls : Array Slot), FX4_forget_L9 n V x1 wV13 wV14 y2 = some o → va_P g.1 az_cl (az_cP g ad (va_up (va_up V 13 wV13) 14 wV14)) H → va_D A (az_cP g ad (va_up (va_up V 13 wV13) 14 wV14)) → va_S A s.heap H locs → lv_has ls 3 [(0, .ref (ad 16)), (1, .int x1), (2, .int y2)] → W p l e ({ frames := 0, cells := 0, slots := 0, locals := 0 } : Room) s m args below meth c H locs 0 0 (MQ below (az_QV g (az_cP g ad (va_up (va_up V 13 o.1) 14 o.2)) A) args s 0 0 A) (F0 m 9 ls []) := by
    intro n
    induction n with
    | zero => intro wV13 wV14 y2 H locs ls h; exact az_non h
    | succ n ih =>
      intro wV13 wV14 y2 H locs ls h hP hD hS hl
      rw [FX4_forget_L9_s] at h
      refine lv_iload_n hx hb dX4_forget_9 rfl (lv_at hl 2 rfl) ?_
      refine lv_bipush (v := (24 : Int32)) hx hb dX4_forget_10 (by decide) ?_
      refine lv_icmp_ge (tgt := 33) hx hb dX4_forget_12 (by decide) (fun c12 => ?_) (fun c12 => ?_)
      · replace h := az_pos c12 h
        have hP : va_P g.1 az_cl (az_cP g ad (va_up (va_up V 13 wV13) 14 wV14)) _ := hP
        have hD : va_D A (az_cP g ad (va_up (va_up V 13 wV13) 14 wV14)) := hD
        rw [← Option.some.inj h]
        exact az_vret hx hb hr hlocks hK hP hD hS dX4_forget_33
      · replace h := az_neg c12 h
        refine lv_aload_n hx hb dX4_forget_15 rfl (lv_at hl 0 rfl) ?_
        refine va_get (D := g.1) (ci := 4) (v := .ref (ad 18)) (C := RX4) (T := TX4) (N := 2) hx hb hts inX4_forget_RX4 hown hK hP 0 rfl rfl 1 (Nat.le_of_ble_eq_true rfl) (hts _ (List.mem_of_getElem? (i := 2) rfl)) (fun _ h9 => h9) rfl dX4_forget_16 ?_
        refine lv_iload_n hx hb dX4_forget_19 rfl (lv_at hl 1 rfl) ?_
        refine lv_bipush (v := (24 : Int32)) hx hb dX4_forget_20 (by decide) ?_
        refine lv_imul hx hb dX4_forget_22 ?_
        refine lv_iload_n hx hb dX4_forget_23 rfl (lv_at hl 2 rfl) ?_
        refine lv_iadd hx hb dX4_forget_24 ?_
        refine lv_iconst (v := (-1 : Int32)) hx hb dX4_forget_25 (by decide) ?_
        obtain ⟨i26, h⟩ := az_ite h
        refine va_iast (D := g.1) (f := wV14) hx hb hK hP hD hS 2 0 rfl rfl (az_vin i26) dX4_forget_26 (fun H locs hP hD hS => ?_)
        obtain ⟨u26, e26⟩ : ∃ w : Nat → Int32, w = upd wV14 ((x1 * (24 : Int32)) + y2).toNatClampNeg (-1 : Int32) := ⟨_, rfl⟩
        have hP : va_P g.1 az_cl (az_cP g ad (va_up (va_up V 13 wV13) 14 u26)) H := by rw [e26]; exact hP
        have hD : va_D A (az_cP g ad (va_up (va_up V 13 wV13) 14 u26)) := by rw [e26]; exact hD
        replace h := az_let e26 h
        refine lv_iinc (v := y2 + (1 : Int32)) (lv' := [(2, .int (y2 + (1 : Int32))), (0, .ref (ad 16)), (1, .int x1)]) hx hb dX4_forget_27 hl (k := 2) rfl (rfl) (by decide) rfl (fun ls hl => ?_)
        refine lv_goto (tgt := 9) hx hb dX4_forget_30 (by decide) ?_
        have hP : va_P g.1 az_cl (az_cP g ad (va_up (va_up V 13 wV13) 14 u26)) _ := hP
        have hD : va_D A (az_cP g ad (va_up (va_up V 13 wV13) 14 u26)) := hD
        exact ih wV13 u26 (y2 + (1 : Int32)) _ _ ls h hP hD hS (lv_sub hl [1, 2, 0] rfl)
  refine lv_aload_n hx hb dX4_forget_0 rfl (lv_at hl 0 rfl) ?_
  refine va_get (D := g.1) (ci := 4) (v := .ref (ad 17)) (C := RX4) (T := TX4) (N := 2) hx hb hts inX4_forget_RX4 hown hK hP 0 rfl rfl 0 (Nat.le_of_ble_eq_true rfl) (hts _ (List.mem_of_getElem? (i := 1) rfl)) (fun _ h9 => h9) rfl dX4_forget_1 ?_
  refine lv_iload_n hx hb dX4_forget_4 rfl (lv_at hl 1 rfl) ?_
  refine lv_iconst (v := (0 : Int32)) hx hb dX4_forget_5 (by decide) ?_
  obtain ⟨i6, h⟩ := az_ite h
  refine va_zast (D := g.1) (f := (V 13)) hx hb hK hP hD hS 1 1 rfl rfl (az_vin i6) dX4_forget_6 (fun H locs hP hD hS => ?_)
  have hP : va_P g.1 az_cl (az_cP g ad (va_up V 13 (upd (V 13) x1.toNatClampNeg (vp_nar .boolean (0 : Int32))))) _ := hP
  have hD : va_D A (az_cP g ad (va_up V 13 (upd (V 13) x1.toNatClampNeg (vp_nar .boolean (0 : Int32))))) := hD
  refine lv_iconst (v := (0 : Int32)) hx hb dX4_forget_7 (by decide) ?_
  refine lv_istore_n (lv' := [(2, .int (0 : Int32)), (0, .ref (ad 16)), (1, .int x1)]) hx hb dX4_forget_8 rfl hl (by decide) rfl (fun ls hl => ?_)
  have hP : va_P g.1 az_cl (az_cP g ad (va_up (va_up V 13 (upd (V 13) x1.toNatClampNeg (vp_nar .boolean (0 : Int32)))) 14 (V 14))) _ := hP
  have hD : va_D A (az_cP g ad (va_up (va_up V 13 (upd (V 13) x1.toNatClampNeg (vp_nar .boolean (0 : Int32)))) 14 (V 14))) := hD
  exact hL9 az_fuel (upd (V 13) x1.toNatClampNeg (vp_nar .boolean (0 : Int32))) (V 14) (0 : Int32) _ _ ls h hP hD hS (lv_sub hl [1, 2, 0] rfl)

def FX4_begin_L2 : Nat → az_St → (Nat → Int32) → (Nat → Int32) → Int32 → Option ((Nat → Int32) × (Nat → Int32))
  | 0, _, _, _, _ => none
  | n + 1, V, wV13, wV14, y1 => if (4 : Int32) ≤ y1 then (some (wV13, wV14)) else ((FX4_forget (va_up (va_up V 13 wV13) 14 wV14) y1).bind (fun o9 => FX4_begin_L2 n V o9.1 o9.2 (y1 + (1 : Int32))))
theorem FX4_begin_L2_s (n : Nat) (V : az_St) (wV13 : Nat → Int32) (wV14 : Nat → Int32) (y1 : Int32) : FX4_begin_L2 (n + 1) V wV13 wV14 y1 = (if (4 : Int32) ≤ y1 then (some (wV13, wV14)) else ((FX4_forget (va_up (va_up V 13 wV13) 14 wV14) y1).bind (fun o9 => FX4_begin_L2 n V o9.1 o9.2 (y1 + (1 : Int32))))) := rfl
def FX4_begin (V : az_St) : Option ((Nat → Int32) × (Nat → Int32)) := FX4_begin_L2 az_fuel V (V 13) (V 14) (0 : Int32)
set_option maxHeartbeats 4000000 in
set_option maxRecDepth 100000 in
theorem kX4_begin (l : Launch) (g : az_G) (ad : Nat → Nat) (V : az_St) (o : (Nat → Int32) × (Nat → Int32)) (h : FX4_begin V = some o) : az_V l yX4_begin wsX4_begin ({ frames := 1, cells := 0, slots := 0, locals := 22 } : Room) [.ref (ad 16)] g (az_cP g ad V) (az_cP g ad (va_up (va_up V 13 o.1) 14 o.2)) := by
  refine az_body (cc := cX4_begin) (maxL := 2) (ret := none) (Qc := fun A => az_QV g (az_cP g ad (va_up (va_up V 13 o.1) 14 o.2)) A) (by decide +kernel) rfl (Nat.le_of_ble_eq_true rfl) ?_
  intro p e s m args below meth c A hx hb hr hts hown hml hlocks hA hK hP hD hS ls hl
  have hl : lv_has ls 2 [(0, .ref (ad 16))] := hl
  unfold FX4_begin at h
  have hL2 : ∀ (n : Nat) (wV13 : Nat → Int32) (wV14 : Nat → Int32) (y1 : Int32) (H : Heap) (locs : List Loc) (ls : Array Slot), FX4_begin_L2 n V wV13 wV14 y1 = some o → va_P g.1 az_cl (az_cP g ad (va_up (va_up V 13 wV13) 14 wV14)) H → va_D A (az_cP g ad (va_up (va_up V 13 wV13) 14 wV14)) → va_S A s.heap H locs → lv_has ls 2 [(0, .ref (ad 16)), (1, .int y1)] → W p l e ({ frames := 1, cells := 0, slots := 0, locals := 22 } : Room) s m args below meth c H locs 0 0 (MQ below (az_QV g (az_cP g ad (va_up (va_up V 13 o.1) 14 o.2)) A) args s 0 0 A) (F0 m 2 ls []) := by
    intro n
    induction n with
    | zero => intro wV13 wV14 y1 H locs ls h; exact az_non h
    | succ n ih =>
      intro wV13 wV14 y1 H locs ls h hP hD hS hl
      rw [FX4_begin_L2_s] at h
      refine lv_iload_n hx hb dX4_begin_2 rfl (lv_at hl 1 rfl) ?_
      refine lv_iconst (v := (4 : Int32)) hx hb dX4_begin_3 (by decide) ?_
      refine lv_icmp_ge (tgt := 18) hx hb dX4_begin_4 (by decide) (fun c4 => ?_) (fun c4 => ?_)
      · replace h := az_pos c4 h
        have hP : va_P g.1 az_cl (az_cP g ad (va_up (va_up V 13 wV13) 14 wV14)) _ := hP
        have hD : va_D A (az_cP g ad (va_up (va_up V 13 wV13) 14 wV14)) := hD
        rw [← Option.some.inj h]
        exact az_vret hx hb hr hlocks hK hP hD hS dX4_begin_18
      · replace h := az_neg c4 h
        refine lv_aload_n hx hb dX4_begin_7 rfl (lv_at hl 0 rfl) ?_
        refine lv_iload_n hx hb dX4_begin_8 rfl (lv_at hl 1 rfl) ?_
        obtain ⟨o9, hc9, h⟩ := az_bnd h
        refine az_callVv (w2 := az_cP g ad (va_up (va_up V 13 o9.1) 14 o9.2)) (As := [.int y1]) (rest := []) ⟨hx, hb, hml, hown, hts⟩ hl.1 (kX4_forget l g ad (va_up (va_up V 13 wV13) 14 wV14) y1 o9 hc9) (cwV 1 hts gX4_begin_X4_forget rfl rfl rfl (by decide +kernel) ⟨Nat.le_of_ble_eq_true rfl, Nat.le_of_ble_eq_true rfl⟩) rfl hK hP hD hS hA [0, 1, 2] [] [0, 1, 2] rfl rfl rfl rfl rfl (by decide) rfl rfl rfl 0 rfl rfl rfl (Nat.le_of_ble_eq_true rfl) dX4_begin_9 ⟨Nat.zero_le _, Nat.zero_le _⟩ rfl (fun H locs hP hD hS => ?_)
        refine lv_iinc (v := y1 + (1 : Int32)) (lv' := [(1, .int (y1 + (1 : Int32))), (0, .ref (ad 16))]) hx hb dX4_begin_12 hl (k := 1) rfl (rfl) (by decide) rfl (fun ls hl => ?_)
        refine lv_goto (tgt := 2) hx hb dX4_begin_15 (by decide) ?_
        have hP : va_P g.1 az_cl (az_cP g ad (va_up (va_up V 13 o9.1) 14 o9.2)) _ := hP
        have hD : va_D A (az_cP g ad (va_up (va_up V 13 o9.1) 14 o9.2)) := hD
        exact ih o9.1 o9.2 (y1 + (1 : Int32)) _ _ ls h hP hD hS (lv_sub hl [1, 0] rfl)
  refine lv_iconst (v := (0 : Int32)) hx hb dX4_begin_0 (by decide) ?_
  refine lv_istore_n (lv' := [(1, .int (0 : Int32)), (0, .ref (ad 16))]) hx hb dX4_begin_1 rfl hl (by decide) rfl (fun ls hl => ?_)
  have hP : va_P g.1 az_cl (az_cP g ad (va_up (va_up V 13 (V 13)) 14 (V 14))) _ := hP
  have hD : va_D A (az_cP g ad (va_up (va_up V 13 (V 13)) 14 (V 14))) := hD
  exact hL2 az_fuel (V 13) (V 14) (0 : Int32) _ _ ls h hP hD hS (lv_sub hl [1, 0] rfl)

def FX4_copyFrom_L2 : Nat → az_St → az_St → (Nat → Int32) → (Nat → Int32) → Int32 → Option ((Nat → Int32) × (Nat → Int32))
  | 0, _, _, _, _, _ => none
  | n + 1, V, O, wV13, wV14, y2 => if (4 : Int32) ≤ y2 then (some (wV13, va_cpy (O 14) wV14 (0 : Int32).toNatClampNeg (0 : Int32).toNatClampNeg (96 : Int32).toNatClampNeg)) else (if az_in y2 4 = true then az_lt (upd wV13 y2.toNatClampNeg (vp_nar .boolean ((O 13) y2.toNatClampNeg))) (fun u18 => FX4_copyFrom_L2 n V O u18 wV14 (y2 + (1 : Int32))) else none)
theorem FX4_copyFrom_L2_s (n : Nat) (V : az_St) (O : az_St) (wV13 : Nat → Int32) (wV14 : Nat → Int32) (y2 : Int32) : FX4_copyFrom_L2 (n + 1) V O wV13 wV14 y2 = (if (4 : Int32) ≤ y2 then (some (wV13, va_cpy (O 14) wV14 (0 : Int32).toNatClampNeg (0 : Int32).toNatClampNeg (96 : Int32).toNatClampNeg)) else (if az_in y2 4 = true then az_lt (upd wV13 y2.toNatClampNeg (vp_nar .boolean ((O 13) y2.toNatClampNeg))) (fun u18 => FX4_copyFrom_L2 n V O u18 wV14 (y2 + (1 : Int32))) else none)) := rfl
def FX4_copyFrom (V : az_St) (O : az_St) : Option ((Nat → Int32) × (Nat → Int32)) := FX4_copyFrom_L2 az_fuel V O (V 13) (V 14) (0 : Int32)
theorem inX4_copyFrom_RX4 : ∀ w ∈ wsX40, w ∈ wsX4_copyFrom := az_inr [7, 8] (by decide +kernel)
set_option maxHeartbeats 4000000 in
set_option maxRecDepth 100000 in
theorem kX4_copyFrom (l : Launch) (g : az_G) (ad : Nat → Nat) (ad2 : Nat → Nat) (V : az_St) (O : az_St) (o : (Nat → Int32) × (Nat → Int32)) (h : FX4_copyFrom V O = some o) : az_V l yX4_copyFrom wsX4_copyFrom ({ frames := 1, cells := 0, slots := 0, locals := 100 } : Room) [.ref (ad 16), .ref (ad2 16)] g ((az_cP g ad V ++ az_cP g ad2 O)) ((az_cP g ad (va_up (va_up V 13 o.1) 14 o.2) ++ az_cP g ad2 O)) := by
  refine az_body (cc := cX4_copyFrom) (maxL := 3) (ret := none) (Qc := fun A => az_QV g ((az_cP g ad (va_up (va_up V 13 o.1) 14 o.2) ++ az_cP g ad2 O)) A) (by decide +kernel) rfl (Nat.le_of_ble_eq_true rfl) ?_
  intro p e s m args below meth c A hx hb hr hts hown hml hlocks hA hK hP hD hS ls hl
  have hl : lv_has ls 3 [(0, .ref (ad 16)), (1, .ref (ad2 16))] := hl
  unfold FX4_copyFrom at h
  have hL2 : ∀ (n : Nat) (wV13 : Nat → Int32) (wV14 : Nat → Int32) (y2 : Int32) (H : Heap) (locs : List Loc) (ls : Array Slot), FX4_copyFrom_L2 n V O wV13 wV14 y2 = some o → va_P g.1 az_cl ((az_cP g ad (va_up (va_up V 13 wV13) 14 wV14) ++ az_cP g ad2 O)) H → va_D A ((az_cP g ad (va_up (va_up V 13 wV13) 14 wV14) ++ az_cP g ad2 O)) → va_S A s.heap H locs → lv_has ls 3 [(0, .ref (ad 16)), (1, .ref (ad2 16)), (2, .int y2)] → W p l e ({ frames := 1, cells := 0, slots := 0, locals := 100 } : Room) s m args below meth c H locs 0 0 (MQ below (az_QV g ((az_cP g ad (va_up (va_up V 13 o.1) 14 o.2) ++ az_cP g ad2 O)) A) args s 0 0 A) (F0 m 2 ls []) := by
    intro n
    induction n with
    | zero => intro wV13 wV14 y2 H locs ls h; exact az_non h
    | succ n ih =>
      intro wV13 wV14 y2 H locs ls h hP hD hS hl
      rw [FX4_copyFrom_L2_s] at h
      refine lv_iload_n hx hb dX4_copyFrom_2 rfl (lv_at hl 2 rfl) ?_
      refine lv_iconst (v := (4 : Int32)) hx hb dX4_copyFrom_3 (by decide) ?_
      refine lv_icmp_ge (tgt := 25) hx hb dX4_copyFrom_4 (by decide) (fun c4 => ?_) (fun c4 => ?_)
      · replace h := az_pos c4 h
        refine lv_aload_n hx hb dX4_copyFrom_25 rfl (lv_at hl 1 rfl) ?_
        refine va_get (D := g.1) (ci := 4) (v := .ref (ad2 18)) (C := RX4) (T := TX4) (N := 2) hx hb hts inX4_copyFrom_RX4 hown hK hP 3 rfl rfl 1 (Nat.le_of_ble_eq_true rfl) (hts _ (List.mem_of_getElem? (i := 2) rfl)) (fun _ h9 => h9) rfl dX4_copyFrom_26 ?_
        refine lv_iconst (v := (0 : Int32)) hx hb dX4_copyFrom_29 (by decide) ?_
        refine lv_aload_n hx hb dX4_copyFrom_30 rfl (lv_at hl 0 rfl) ?_
        refine va_get (D := g.1) (ci := 4) (v := .ref (ad 18)) (C := RX4) (T := TX4) (N := 2) hx hb hts inX4_copyFrom_RX4 hown hK hP 0 rfl rfl 1 (Nat.le_of_ble_eq_true rfl) (hts _ (List.mem_of_getElem? (i := 2) rfl)) (fun _ h9 => h9) rfl dX4_copyFrom_31 ?_
        refine lv_iconst (v := (0 : Int32)) hx hb dX4_copyFrom_34 (by decide) ?_
        refine lv_bipush (v := (96 : Int32)) hx hb dX4_copyFrom_35 (by decide) ?_
        refine va_copyi (D := g.1) (f := (O 14)) (g := wV14) (ty := .int) hx hb (hml.trans hl.1.symm) hown (hts _ (List.mem_of_getElem? (i := 3) rfl)) (hts _ (List.mem_of_getElem? (i := 4) rfl)) (hts _ (List.mem_of_getElem? (i := 5) rfl)) (hts _ (List.mem_of_getElem? (i := 6) rfl)) hK hP hD hS 5 2 0 0 rfl rfl rfl rfl rfl (by decide) (by decide) (by decide) (Nat.le_of_ble_eq_true rfl) (Nat.le_of_ble_eq_true rfl) (fun _ _ => rfl) (Nat.le_of_ble_eq_true rfl) (by decide +kernel) dX4_copyFrom_37 (fun H locs hP hD hS => ?_)
        have hP : va_P g.1 az_cl ((az_cP g ad (va_up (va_up V 13 wV13) 14 (va_cpy (O 14) wV14 (0 : Int32).toNatClampNeg (0 : Int32).toNatClampNeg (96 : Int32).toNatClampNeg)) ++ az_cP g ad2 O)) _ := hP
        have hD : va_D A ((az_cP g ad (va_up (va_up V 13 wV13) 14 (va_cpy (O 14) wV14 (0 : Int32).toNatClampNeg (0 : Int32).toNatClampNeg (96 : Int32).toNatClampNeg)) ++ az_cP g ad2 O)) := hD
        have hP : va_P g.1 az_cl ((az_cP g ad (va_up (va_up V 13 wV13) 14 (va_cpy (O 14) wV14 (0 : Int32).toNatClampNeg (0 : Int32).toNatClampNeg (96 : Int32).toNatClampNeg)) ++ az_cP g ad2 O)) _ := hP
        have hD : va_D A ((az_cP g ad (va_up (va_up V 13 wV13) 14 (va_cpy (O 14) wV14 (0 : Int32).toNatClampNeg (0 : Int32).toNatClampNeg (96 : Int32).toNatClampNeg)) ++ az_cP g ad2 O)) := hD
        rw [← Option.some.inj h]
        exact az_vret hx hb hr hlocks hK hP hD hS dX4_copyFrom_40
      · replace h := az_neg c4 h
        refine lv_aload_n hx hb dX4_copyFrom_7 rfl (lv_at hl 0 rfl) ?_
        refine va_get (D := g.1) (ci := 4) (v := .ref (ad 17)) (C := RX4) (T := TX4) (N := 2) hx hb hts inX4_copyFrom_RX4 hown hK hP 0 rfl rfl 0 (Nat.le_of_ble_eq_true rfl) (hts _ (List.mem_of_getElem? (i := 1) rfl)) (fun _ h9 => h9) rfl dX4_copyFrom_8 ?_
        refine lv_iload_n hx hb dX4_copyFrom_11 rfl (lv_at hl 2 rfl) ?_
        refine lv_aload_n hx hb dX4_copyFrom_12 rfl (lv_at hl 1 rfl) ?_
        refine va_get (D := g.1) (ci := 4) (v := .ref (ad2 17)) (C := RX4) (T := TX4) (N := 2) hx hb hts inX4_copyFrom_RX4 hown hK hP 3 rfl rfl 0 (Nat.le_of_ble_eq_true rfl) (hts _ (List.mem_of_getElem? (i := 1) rfl)) (fun _ h9 => h9) rfl dX4_copyFrom_13 ?_
        refine lv_iload_n hx hb dX4_copyFrom_16 rfl (lv_at hl 2 rfl) ?_
        obtain ⟨i17, h⟩ := az_ite h
        refine va_zald (D := g.1) (f := (O 13)) hx hb hK hP 4 1 rfl rfl (az_vin i17) dX4_copyFrom_17 ?_
        refine va_zast (D := g.1) (f := wV13) hx hb hK hP hD hS 1 1 rfl rfl (az_vin i17) dX4_copyFrom_18 (fun H locs hP hD hS => ?_)
        obtain ⟨u18, e18⟩ : ∃ w : Nat → Int32, w = upd wV13 y2.toNatClampNeg (vp_nar .boolean ((O 13) y2.toNatClampNeg)) := ⟨_, rfl⟩
        have hP : va_P g.1 az_cl ((az_cP g ad (va_up (va_up V 13 u18) 14 wV14) ++ az_cP g ad2 O)) H := by rw [e18]; exact hP
        have hD : va_D A ((az_cP g ad (va_up (va_up V 13 u18) 14 wV14) ++ az_cP g ad2 O)) := by rw [e18]; exact hD
        replace h := az_let e18 h
        refine lv_iinc (v := y2 + (1 : Int32)) (lv' := [(2, .int (y2 + (1 : Int32))), (0, .ref (ad 16)), (1, .ref (ad2 16))]) hx hb dX4_copyFrom_19 hl (k := 2) rfl (rfl) (by decide) rfl (fun ls hl => ?_)
        refine lv_goto (tgt := 2) hx hb dX4_copyFrom_22 (by decide) ?_
        have hP : va_P g.1 az_cl ((az_cP g ad (va_up (va_up V 13 u18) 14 wV14) ++ az_cP g ad2 O)) _ := hP
        have hD : va_D A ((az_cP g ad (va_up (va_up V 13 u18) 14 wV14) ++ az_cP g ad2 O)) := hD
        exact ih u18 wV14 (y2 + (1 : Int32)) _ _ ls h hP hD hS (lv_sub hl [1, 2, 0] rfl)
  refine lv_iconst (v := (0 : Int32)) hx hb dX4_copyFrom_0 (by decide) ?_
  refine lv_istore_n (lv' := [(2, .int (0 : Int32)), (0, .ref (ad 16)), (1, .ref (ad2 16))]) hx hb dX4_copyFrom_1 rfl hl (by decide) rfl (fun ls hl => ?_)
  have hP : va_P g.1 az_cl ((az_cP g ad (va_up (va_up V 13 (V 13)) 14 (V 14)) ++ az_cP g ad2 O)) _ := hP
  have hD : va_D A ((az_cP g ad (va_up (va_up V 13 (V 13)) 14 (V 14)) ++ az_cP g ad2 O)) := hD
  exact hL2 az_fuel (V 13) (V 14) (0 : Int32) _ _ ls h hP hD hS (lv_sub hl [1, 2, 0] rfl)

def FX4_take_L12 : Nat → az_St → Int32 → (Nat → Int32) → (Nat → Int32) → Int32 → Int32 → Option (Int32 × (Nat → Int32) × (Nat → Int32))
  | 0, _, _, _, _, _, _ => none
  | n + 1, V, x1, wV13, wV14, y3, y4 => if (24 : Int32) ≤ y4 then (some (y3, wV13, wV14)) else (if az_in y4 24 = true then if az_in ((x1 * (24 : Int32)) + y4) 96 = true then az_lt (upd wV14 ((x1 * (24 : Int32)) + y4).toNatClampNeg ((V 15) y4.toNatClampNeg)) (fun u34 => if (V 15) y4.toNatClampNeg = (-1 : Int32) then (FX4_take_L12 n V x1 wV13 u34 y3 (y4 + (1 : Int32))) else (FX4_take_L12 n V x1 wV13 u34 (y3 + (1 : Int32)) (y4 + (1 : Int32)))) else none else none)
theorem FX4_take_L12_s (n : Nat) (V : az_St) (x1 : Int32) (wV13 : Nat → Int32) (wV14 : Nat → Int32) (y3 : Int32) (y4 : Int32) : FX4_take_L12 (n + 1) V x1 wV13 wV14 y3 y4 = (if (24 : Int32) ≤ y4 then (some (y3, wV13, wV14)) else (if az_in y4 24 = true then if az_in ((x1 * (24 : Int32)) + y4) 96 = true then az_lt (upd wV14 ((x1 * (24 : Int32)) + y4).toNatClampNeg ((V 15) y4.toNatClampNeg)) (fun u34 => if (V 15) y4.toNatClampNeg = (-1 : Int32) then (FX4_take_L12 n V x1 wV13 u34 y3 (y4 + (1 : Int32))) else (FX4_take_L12 n V x1 wV13 u34 (y3 + (1 : Int32)) (y4 + (1 : Int32)))) else none else none)) := rfl
def FX4_take (V : az_St) (x1 : Int32) : Option (Int32 × (Nat → Int32) × (Nat → Int32)) := if az_in x1 4 = true then FX4_take_L12 az_fuel V x1 (upd (V 13) x1.toNatClampNeg (vp_nar .boolean (1 : Int32))) (V 14) (0 : Int32) (0 : Int32) else none
theorem inX4_take_RX4 : ∀ w ∈ wsX40, w ∈ wsX4_take := az_inr [3, 4] (by decide +kernel)
set_option maxHeartbeats 4000000 in
set_option maxRecDepth 100000 in
theorem kX4_take (l : Launch) (g : az_G) (ad : Nat → Nat) (V : az_St) (x1 : Int32) (o : Int32 × (Nat → Int32) × (Nat → Int32)) (h : FX4_take V x1 = some o) : az_I l yX4_take wsX4_take ({ frames := 0, cells := 0, slots := 0, locals := 0 } : Room) [.ref (ad 16), .int x1, .ref (ad 19)] g (az_cPL g ad V) o.1 (az_cPL g ad (va_up (va_up V 13 o.2.1) 14 o.2.2)) := by
  refine az_body (cc := cX4_take) (maxL := 5) (ret := (some .int)) (Qc := fun A => az_QI g (az_cPL g ad (va_up (va_up V 13 o.2.1) 14 o.2.2)) o.1 A) (by decide +kernel) rfl (Nat.le_of_ble_eq_true rfl) ?_
  intro p e s m args below meth c A hx hb hr hts hown hml hlocks hA hK hP hD hS ls hl
  have hl : lv_has ls 5 [(0, .ref (ad 16)), (1, .int x1), (2, .ref (ad 19))] := hl
  unfold FX4_take at h
  have hL12 : ∀ (n : Nat) (wV13 : Nat → Int32) (wV14 : Nat → Int32) (y3 : Int32) (y4 : Int32) (H : Heap) (locs : List Loc) (ls : Array Slot), FX4_take_L12 n V x1 wV13 wV14 y3 y4 = some o → va_P g.1 az_cl (az_cPL g ad (va_up (va_up V 13 wV13) 14 wV14)) H → va_D A (az_cPL g ad (va_up (va_up V 13 wV13) 14 wV14)) → va_S A s.heap H locs → lv_has ls 5 [(0, .ref (ad 16)), (1, .int x1), (2, .ref (ad 19)), (3, .int y3), (4, .int y4)] → W p l e ({ frames := 0, cells := 0, slots := 0, locals := 0 } : Room) s m args below meth c H locs 0 0 (MQ below (az_QI g (az_cPL g ad (va_up (va_up V 13 o.2.1) 14 o.2.2)) o.1 A) args s 0 0 A) (F0 m 12 ls []) := by
    intro n
    induction n with
    | zero => intro wV13 wV14 y3 y4 H locs ls h; exact az_non h
    | succ n ih =>
      intro wV13 wV14 y3 y4 H locs ls h hP hD hS hl
      rw [FX4_take_L12_s] at h
      refine lv_iload hx hb dX4_take_12 (lv_at hl 4 rfl) ?_
      refine lv_bipush (v := (24 : Int32)) hx hb dX4_take_14 (by decide) ?_
      refine lv_icmp_ge (tgt := 52) hx hb dX4_take_16 (by decide) (fun c16 => ?_) (fun c16 => ?_)
      · replace h := az_pos c16 h
        refine lv_iload_n hx hb dX4_take_52 rfl (lv_at hl 3 rfl) ?_
        have hP : va_P g.1 az_cl (az_cPL g ad (va_up (va_up V 13 wV13) 14 wV14)) _ := hP
        have hD : va_D A (az_cPL g ad (va_up (va_up V 13 wV13) 14 wV14)) := hD
        rw [← Option.some.inj h]
        exact az_iret hx hb hr hlocks hK hP hD hS dX4_take_53
      · replace h := az_neg c16 h
        refine lv_aload_n hx hb dX4_take_19 rfl (lv_at hl 0 rfl) ?_
        refine va_get (D := g.1) (ci := 4) (v := .ref (ad 18)) (C := RX4) (T := TX4) (N := 2) hx hb hts inX4_take_RX4 hown hK hP 0 rfl rfl 1 (Nat.le_of_ble_eq_true rfl) (hts _ (List.mem_of_getElem? (i := 2) rfl)) (fun _ h9 => h9) rfl dX4_take_20 ?_
        refine lv_iload_n hx hb dX4_take_23 rfl (lv_at hl 1 rfl) ?_
        refine lv_bipush (v := (24 : Int32)) hx hb dX4_take_24 (by decide) ?_
        refine lv_imul hx hb dX4_take_26 ?_
        refine lv_iload hx hb dX4_take_27 (lv_at hl 4 rfl) ?_
        refine lv_iadd hx hb dX4_take_29 ?_
        refine lv_aload_n hx hb dX4_take_30 rfl (lv_at hl 2 rfl) ?_
        refine lv_iload hx hb dX4_take_31 (lv_at hl 4 rfl) ?_
        obtain ⟨i33, h⟩ := az_ite h
        refine va_iald (D := g.1) (f := (V 15)) hx hb hK hP 3 0 rfl rfl (az_vin i33) dX4_take_33 ?_
        obtain ⟨i34, h⟩ := az_ite h
        refine va_iast (D := g.1) (f := wV14) hx hb hK hP hD hS 2 0 rfl rfl (az_vin i34) dX4_take_34 (fun H locs hP hD hS => ?_)
        obtain ⟨u34, e34⟩ : ∃ w : Nat → Int32, w = upd wV14 ((x1 * (24 : Int32)) + y4).toNatClampNeg ((V 15) y4.toNatClampNeg) := ⟨_, rfl⟩
        have hP : va_P g.1 az_cl (az_cPL g ad (va_up (va_up V 13 wV13) 14 u34)) H := by rw [e34]; exact hP
        have hD : va_D A (az_cPL g ad (va_up (va_up V 13 wV13) 14 u34)) := by rw [e34]; exact hD
        replace h := az_let e34 h
        refine lv_aload_n hx hb dX4_take_35 rfl (lv_at hl 2 rfl) ?_
        refine lv_iload hx hb dX4_take_36 (lv_at hl 4 rfl) ?_
        refine va_iald (D := g.1) (f := (V 15)) hx hb hK hP 3 0 rfl rfl (az_vin i33) dX4_take_38 ?_
        refine lv_iconst (v := (-1 : Int32)) hx hb dX4_take_39 (by decide) ?_
        refine lv_icmp_eq (tgt := 46) hx hb dX4_take_40 (by decide) (fun c40 => ?_) (fun c40 => ?_)
        · replace h := az_pos c40 h
          refine lv_iinc (v := y4 + (1 : Int32)) (lv' := [(4, .int (y4 + (1 : Int32))), (0, .ref (ad 16)), (1, .int x1), (2, .ref (ad 19)), (3, .int y3)]) hx hb dX4_take_46 hl (k := 4) rfl (rfl) (by decide) rfl (fun ls hl => ?_)
          refine lv_goto (tgt := 12) hx hb dX4_take_49 (by decide) ?_
          have hP : va_P g.1 az_cl (az_cPL g ad (va_up (va_up V 13 wV13) 14 u34)) _ := hP
          have hD : va_D A (az_cPL g ad (va_up (va_up V 13 wV13) 14 u34)) := hD
          exact ih wV13 u34 y3 (y4 + (1 : Int32)) _ _ ls h hP hD hS (lv_sub hl [1, 2, 3, 4, 0] rfl)
        · replace h := az_neg c40 h
          refine lv_iinc (v := y3 + (1 : Int32)) (lv' := [(3, .int (y3 + (1 : Int32))), (0, .ref (ad 16)), (1, .int x1), (2, .ref (ad 19)), (4, .int y4)]) hx hb dX4_take_43 hl (k := 3) rfl (rfl) (by decide) rfl (fun ls hl => ?_)
          refine lv_iinc (v := y4 + (1 : Int32)) (lv' := [(4, .int (y4 + (1 : Int32))), (3, .int (y3 + (1 : Int32))), (0, .ref (ad 16)), (1, .int x1), (2, .ref (ad 19))]) hx hb dX4_take_46 hl (k := 4) rfl (rfl) (by decide) rfl (fun ls hl => ?_)
          refine lv_goto (tgt := 12) hx hb dX4_take_49 (by decide) ?_
          have hP : va_P g.1 az_cl (az_cPL g ad (va_up (va_up V 13 wV13) 14 u34)) _ := hP
          have hD : va_D A (az_cPL g ad (va_up (va_up V 13 wV13) 14 u34)) := hD
          exact ih wV13 u34 (y3 + (1 : Int32)) (y4 + (1 : Int32)) _ _ ls h hP hD hS (lv_sub hl [2, 3, 4, 1, 0] rfl)
  refine lv_iconst (v := (0 : Int32)) hx hb dX4_take_0 (by decide) ?_
  refine lv_istore_n (lv' := [(3, .int (0 : Int32)), (0, .ref (ad 16)), (1, .int x1), (2, .ref (ad 19))]) hx hb dX4_take_1 rfl hl (by decide) rfl (fun ls hl => ?_)
  refine lv_aload_n hx hb dX4_take_2 rfl (lv_at hl 1 rfl) ?_
  refine va_get (D := g.1) (ci := 4) (v := .ref (ad 17)) (C := RX4) (T := TX4) (N := 2) hx hb hts inX4_take_RX4 hown hK hP 0 rfl rfl 0 (Nat.le_of_ble_eq_true rfl) (hts _ (List.mem_of_getElem? (i := 1) rfl)) (fun _ h9 => h9) rfl dX4_take_3 ?_
  refine lv_iload_n hx hb dX4_take_6 rfl (lv_at hl 2 rfl) ?_
  refine lv_iconst (v := (1 : Int32)) hx hb dX4_take_7 (by decide) ?_
  obtain ⟨i8, h⟩ := az_ite h
  refine va_zast (D := g.1) (f := (V 13)) hx hb hK hP hD hS 1 1 rfl rfl (az_vin i8) dX4_take_8 (fun H locs hP hD hS => ?_)
  have hP : va_P g.1 az_cl (az_cPL g ad (va_up V 13 (upd (V 13) x1.toNatClampNeg (vp_nar .boolean (1 : Int32))))) _ := hP
  have hD : va_D A (az_cPL g ad (va_up V 13 (upd (V 13) x1.toNatClampNeg (vp_nar .boolean (1 : Int32))))) := hD
  refine lv_iconst (v := (0 : Int32)) hx hb dX4_take_9 (by decide) ?_
  refine lv_istore (lv' := [(4, .int (0 : Int32)), (3, .int (0 : Int32)), (0, .ref (ad 16)), (1, .int x1), (2, .ref (ad 19))]) hx hb dX4_take_10 hl (by decide) rfl (fun ls hl => ?_)
  have hP : va_P g.1 az_cl (az_cPL g ad (va_up (va_up V 13 (upd (V 13) x1.toNatClampNeg (vp_nar .boolean (1 : Int32)))) 14 (V 14))) _ := hP
  have hD : va_D A (az_cPL g ad (va_up (va_up V 13 (upd (V 13) x1.toNatClampNeg (vp_nar .boolean (1 : Int32)))) 14 (V 14))) := hD
  exact hL12 az_fuel (upd (V 13) x1.toNatClampNeg (vp_nar .boolean (1 : Int32))) (V 14) (0 : Int32) (0 : Int32) _ _ ls h hP hD hS (lv_sub hl [2, 3, 4, 1, 0] rfl)

def FX4_blockOf (V : az_St) (x1 : Int32) (x2 : Int32) : Option (Int32) := if az_in ((x1 * (24 : Int32)) + x2) 96 = true then some ((V 14) ((x1 * (24 : Int32)) + x2).toNatClampNeg) else none
theorem inX4_blockOf_RX4 : ∀ w ∈ wsX40, w ∈ wsX4_blockOf := az_inr [2, 3] (by decide +kernel)
set_option maxHeartbeats 4000000 in
set_option maxRecDepth 100000 in
theorem kX4_blockOf (l : Launch) (g : az_G) (ad : Nat → Nat) (V : az_St) (x1 : Int32) (x2 : Int32) (o : Int32) (h : FX4_blockOf V x1 x2 = some o) : az_I l yX4_blockOf wsX4_blockOf ({ frames := 0, cells := 0, slots := 0, locals := 0 } : Room) [.ref (ad 16), .int x1, .int x2] g (az_cP g ad V) o (az_cP g ad V) := by
  refine az_body (cc := cX4_blockOf) (maxL := 3) (ret := (some .int)) (Qc := fun A => az_QI g (az_cP g ad V) o A) (by decide +kernel) rfl (Nat.le_of_ble_eq_true rfl) ?_
  intro p e s m args below meth c A hx hb hr hts hown hml hlocks hA hK hP hD hS ls hl
  have hl : lv_has ls 3 [(0, .ref (ad 16)), (1, .int x1), (2, .int x2)] := hl
  unfold FX4_blockOf at h
  refine lv_aload_n hx hb dX4_blockOf_0 rfl (lv_at hl 0 rfl) ?_
  refine va_get (D := g.1) (ci := 4) (v := .ref (ad 18)) (C := RX4) (T := TX4) (N := 2) hx hb hts inX4_blockOf_RX4 hown hK hP 0 rfl rfl 1 (Nat.le_of_ble_eq_true rfl) (hts _ (List.mem_of_getElem? (i := 1) rfl)) (fun _ h9 => h9) rfl dX4_blockOf_1 ?_
  refine lv_iload_n hx hb dX4_blockOf_4 rfl (lv_at hl 1 rfl) ?_
  refine lv_bipush (v := (24 : Int32)) hx hb dX4_blockOf_5 (by decide) ?_
  refine lv_imul hx hb dX4_blockOf_7 ?_
  refine lv_iload_n hx hb dX4_blockOf_8 rfl (lv_at hl 2 rfl) ?_
  refine lv_iadd hx hb dX4_blockOf_9 ?_
  obtain ⟨i10, h⟩ := az_ite h
  refine va_iald (D := g.1) (f := (V 14)) hx hb hK hP 2 0 rfl rfl (az_vin i10) dX4_blockOf_10 ?_
  have hP : va_P g.1 az_cl (az_cP g ad V) _ := hP
  have hD : va_D A (az_cP g ad V) := hD
  rw [← Option.some.inj h]
  exact az_iret hx hb hr hlocks hK hP hD hS dX4_blockOf_11

def FX4_has (V : az_St) (x1 : Int32) (x2 : Int32) (x3 : Int32) : Option (Int32) := if x2 = (-1 : Int32) then (some ((0 : Int32))) else ((FX4_blockOf V x1 x2).bind (fun o8 => if o8 = x3 then (some ((1 : Int32))) else (some ((0 : Int32)))))
set_option maxHeartbeats 4000000 in
set_option maxRecDepth 100000 in
theorem kX4_has (l : Launch) (g : az_G) (ad : Nat → Nat) (V : az_St) (x1 : Int32) (x2 : Int32) (x3 : Int32) (o : Int32) (h : FX4_has V x1 x2 x3 = some o) : az_I l yX4_has wsX4_has ({ frames := 1, cells := 0, slots := 0, locals := 22 } : Room) [.ref (ad 16), .int x1, .int x2, .int x3] g (az_cP g ad V) o (az_cP g ad V) := by
  refine az_body (cc := cX4_has) (maxL := 4) (ret := (some .boolean)) (Qc := fun A => az_QI g (az_cP g ad V) o A) (by decide +kernel) rfl (Nat.le_of_ble_eq_true rfl) ?_
  intro p e s m args below meth c A hx hb hr hts hown hml hlocks hA hK hP hD hS ls hl
  have hl : lv_has ls 4 [(0, .ref (ad 16)), (1, .int x1), (2, .int x2), (3, .int x3)] := hl
  unfold FX4_has at h
  refine lv_iload_n hx hb dX4_has_0 rfl (lv_at hl 2 rfl) ?_
  refine lv_iconst (v := (-1 : Int32)) hx hb dX4_has_1 (by decide) ?_
  refine lv_icmp_eq (tgt := 19) hx hb dX4_has_2 (by decide) (fun c2 => ?_) (fun c2 => ?_)
  · replace h := az_pos c2 h
    refine lv_iconst (v := (0 : Int32)) hx hb dX4_has_19 (by decide) ?_
    have hP : va_P g.1 az_cl (az_cP g ad V) _ := hP
    have hD : va_D A (az_cP g ad V) := hD
    rw [← Option.some.inj h]
    exact az_zret hx hb hr hlocks rfl hK hP hD hS dX4_has_20
  · replace h := az_neg c2 h
    refine lv_aload_n hx hb dX4_has_5 rfl (lv_at hl 0 rfl) ?_
    refine lv_iload_n hx hb dX4_has_6 rfl (lv_at hl 1 rfl) ?_
    refine lv_iload_n hx hb dX4_has_7 rfl (lv_at hl 2 rfl) ?_
    obtain ⟨o8, hc8, h⟩ := az_bnd h
    refine az_callVi (w2 := az_cP g ad V) (As := [.int x1, .int x2]) (rest := []) ⟨hx, hb, hml, hown, hts⟩ hl.1 (kX4_blockOf l g ad V x1 x2 o8 hc8) (cwV 2 hts gX4_has_X4_blockOf rfl rfl rfl (by decide +kernel) ⟨Nat.le_of_ble_eq_true rfl, Nat.le_of_ble_eq_true rfl⟩) rfl hK hP hD hS hA [0, 1, 2] [] [0, 1, 2] rfl rfl rfl rfl rfl (by decide) rfl rfl rfl 0 rfl rfl rfl (Nat.le_of_ble_eq_true rfl) dX4_has_8 ⟨Nat.zero_le _, Nat.zero_le _⟩ rfl (fun H locs hP hD hS => ?_)
    refine lv_iload_n hx hb dX4_has_11 rfl (lv_at hl 3 rfl) ?_
    refine lv_icmp_ne (tgt := 19) hx hb dX4_has_12 (by decide) (fun c12 => ?_) (fun c12 => ?_)
    · replace h := az_neg c12 h
      refine lv_iconst (v := (0 : Int32)) hx hb dX4_has_19 (by decide) ?_
      have hP : va_P g.1 az_cl (az_cP g ad V) _ := hP
      have hD : va_D A (az_cP g ad V) := hD
      rw [← Option.some.inj h]
      exact az_zret hx hb hr hlocks rfl hK hP hD hS dX4_has_20
    · replace h := az_pos c12 h
      refine lv_iconst (v := (1 : Int32)) hx hb dX4_has_15 (by decide) ?_
      refine lv_goto (tgt := 20) hx hb dX4_has_16 (by decide) ?_
      have hP : va_P g.1 az_cl (az_cP g ad V) _ := hP
      have hD : va_D A (az_cP g ad V) := hD
      rw [← Option.some.inj h]
      exact az_zret hx hb hr hlocks rfl hK hP hD hS dX4_has_20

def FX4_havers_L5 : Nat → az_St → Int32 → Int32 → Int32 → Int32 → Option (Int32)
  | 0, _, _, _, _, _ => none
  | n + 1, V, x1, x2, y3, y4 => if (4 : Int32) ≤ y4 then (some (y3)) else ((FX4_has V y4 x1 x2).bind (fun o16 => if o16 = (0 : Int32) then (FX4_havers_L5 n V x1 x2 y3 (y4 + (1 : Int32))) else (FX4_havers_L5 n V x1 x2 (y3 + (1 : Int32)) (y4 + (1 : Int32)))))
theorem FX4_havers_L5_s (n : Nat) (V : az_St) (x1 : Int32) (x2 : Int32) (y3 : Int32) (y4 : Int32) : FX4_havers_L5 (n + 1) V x1 x2 y3 y4 = (if (4 : Int32) ≤ y4 then (some (y3)) else ((FX4_has V y4 x1 x2).bind (fun o16 => if o16 = (0 : Int32) then (FX4_havers_L5 n V x1 x2 y3 (y4 + (1 : Int32))) else (FX4_havers_L5 n V x1 x2 (y3 + (1 : Int32)) (y4 + (1 : Int32)))))) := rfl
def FX4_havers (V : az_St) (x1 : Int32) (x2 : Int32) : Option (Int32) := FX4_havers_L5 az_fuel V x1 x2 (0 : Int32) (0 : Int32)
set_option maxHeartbeats 4000000 in
set_option maxRecDepth 100000 in
theorem kX4_havers (l : Launch) (g : az_G) (ad : Nat → Nat) (V : az_St) (x1 : Int32) (x2 : Int32) (o : Int32) (h : FX4_havers V x1 x2 = some o) : az_I l yX4_havers wsX4_havers ({ frames := 2, cells := 0, slots := 0, locals := 45 } : Room) [.ref (ad 16), .int x1, .int x2] g (az_cP g ad V) o (az_cP g ad V) := by
  refine az_body (cc := cX4_havers) (maxL := 5) (ret := (some .int)) (Qc := fun A => az_QI g (az_cP g ad V) o A) (by decide +kernel) rfl (Nat.le_of_ble_eq_true rfl) ?_
  intro p e s m args below meth c A hx hb hr hts hown hml hlocks hA hK hP hD hS ls hl
  have hl : lv_has ls 5 [(0, .ref (ad 16)), (1, .int x1), (2, .int x2)] := hl
  unfold FX4_havers at h
  have hL5 : ∀ (n : Nat) (y3 : Int32) (y4 : Int32) (H : Heap) (locs : List Loc) (ls : Array Slot), FX4_havers_L5 n V x1 x2 y3 y4 = some o → va_P g.1 az_cl (az_cP g ad V) H → va_D A (az_cP g ad V) → va_S A s.heap H locs → lv_has ls 5 [(0, .ref (ad 16)), (1, .int x1), (2, .int x2), (3, .int y3), (4, .int y4)] → W p l e ({ frames := 2, cells := 0, slots := 0, locals := 45 } : Room) s m args below meth c H locs 0 0 (MQ below (az_QI g (az_cP g ad V) o A) args s 0 0 A) (F0 m 5 ls []) := by
    intro n
    induction n with
    | zero => intro y3 y4 H locs ls h; exact az_non h
    | succ n ih =>
      intro y3 y4 H locs ls h hP hD hS hl
      rw [FX4_havers_L5_s] at h
      refine lv_iload hx hb dX4_havers_5 (lv_at hl 4 rfl) ?_
      refine lv_iconst (v := (4 : Int32)) hx hb dX4_havers_7 (by decide) ?_
      refine lv_icmp_ge (tgt := 31) hx hb dX4_havers_8 (by decide) (fun c8 => ?_) (fun c8 => ?_)
      · replace h := az_pos c8 h
        refine lv_iload_n hx hb dX4_havers_31 rfl (lv_at hl 3 rfl) ?_
        have hP : va_P g.1 az_cl (az_cP g ad V) _ := hP
        have hD : va_D A (az_cP g ad V) := hD
        rw [← Option.some.inj h]
        exact az_iret hx hb hr hlocks hK hP hD hS dX4_havers_32
      · replace h := az_neg c8 h
        refine lv_aload_n hx hb dX4_havers_11 rfl (lv_at hl 0 rfl) ?_
        refine lv_iload hx hb dX4_havers_12 (lv_at hl 4 rfl) ?_
        refine lv_iload_n hx hb dX4_havers_14 rfl (lv_at hl 1 rfl) ?_
        refine lv_iload_n hx hb dX4_havers_15 rfl (lv_at hl 2 rfl) ?_
        obtain ⟨o16, hc16, h⟩ := az_bnd h
        refine az_callVi (w2 := az_cP g ad V) (As := [.int y4, .int x1, .int x2]) (rest := []) ⟨hx, hb, hml, hown, hts⟩ hl.1 (kX4_has l g ad V y4 x1 x2 o16 hc16) (cwV 3 hts gX4_havers_X4_has rfl rfl rfl (by decide +kernel) ⟨Nat.le_of_ble_eq_true rfl, Nat.le_of_ble_eq_true rfl⟩) rfl hK hP hD hS hA [0, 1, 2] [] [0, 1, 2] rfl rfl rfl rfl rfl (by decide) rfl rfl rfl 0 rfl rfl rfl (Nat.le_of_ble_eq_true rfl) dX4_havers_16 ⟨Nat.zero_le _, Nat.zero_le _⟩ rfl (fun H locs hP hD hS => ?_)
        refine lv_if_eq (tgt := 25) hx hb dX4_havers_19 (by decide) (fun c19 => ?_) (fun c19 => ?_)
        · replace h := az_pos c19 h
          refine lv_iinc (v := y4 + (1 : Int32)) (lv' := [(4, .int (y4 + (1 : Int32))), (0, .ref (ad 16)), (1, .int x1), (2, .int x2), (3, .int y3)]) hx hb dX4_havers_25 hl (k := 4) rfl (rfl) (by decide) rfl (fun ls hl => ?_)
          refine lv_goto (tgt := 5) hx hb dX4_havers_28 (by decide) ?_
          have hP : va_P g.1 az_cl (az_cP g ad V) _ := hP
          have hD : va_D A (az_cP g ad V) := hD
          exact ih y3 (y4 + (1 : Int32)) _ _ ls h hP hD hS (lv_sub hl [1, 2, 3, 4, 0] rfl)
        · replace h := az_neg c19 h
          refine lv_iinc (v := y3 + (1 : Int32)) (lv' := [(3, .int (y3 + (1 : Int32))), (0, .ref (ad 16)), (1, .int x1), (2, .int x2), (4, .int y4)]) hx hb dX4_havers_22 hl (k := 3) rfl (rfl) (by decide) rfl (fun ls hl => ?_)
          refine lv_iinc (v := y4 + (1 : Int32)) (lv' := [(4, .int (y4 + (1 : Int32))), (3, .int (y3 + (1 : Int32))), (0, .ref (ad 16)), (1, .int x1), (2, .int x2)]) hx hb dX4_havers_25 hl (k := 4) rfl (rfl) (by decide) rfl (fun ls hl => ?_)
          refine lv_goto (tgt := 5) hx hb dX4_havers_28 (by decide) ?_
          have hP : va_P g.1 az_cl (az_cP g ad V) _ := hP
          have hD : va_D A (az_cP g ad V) := hD
          exact ih (y3 + (1 : Int32)) (y4 + (1 : Int32)) _ _ ls h hP hD hS (lv_sub hl [2, 3, 4, 1, 0] rfl)
  refine lv_iconst (v := (0 : Int32)) hx hb dX4_havers_0 (by decide) ?_
  refine lv_istore_n (lv' := [(3, .int (0 : Int32)), (0, .ref (ad 16)), (1, .int x1), (2, .int x2)]) hx hb dX4_havers_1 rfl hl (by decide) rfl (fun ls hl => ?_)
  refine lv_iconst (v := (0 : Int32)) hx hb dX4_havers_2 (by decide) ?_
  refine lv_istore (lv' := [(4, .int (0 : Int32)), (3, .int (0 : Int32)), (0, .ref (ad 16)), (1, .int x1), (2, .int x2)]) hx hb dX4_havers_3 hl (by decide) rfl (fun ls hl => ?_)
  have hP : va_P g.1 az_cl (az_cP g ad V) _ := hP
  have hD : va_D A (az_cP g ad V) := hD
  exact hL5 az_fuel (0 : Int32) (0 : Int32) _ _ ls h hP hD hS (lv_sub hl [2, 3, 4, 1, 0] rfl)

def FX4_anyHas (V : az_St) (x1 : Int32) (x2 : Int32) : Option (Int32) := (FX4_havers V x1 x2).bind (fun o3 => if o3 ≤ (0 : Int32) then (some ((0 : Int32))) else (some ((1 : Int32))))
set_option maxHeartbeats 4000000 in
set_option maxRecDepth 100000 in
theorem kX4_anyHas (l : Launch) (g : az_G) (ad : Nat → Nat) (V : az_St) (x1 : Int32) (x2 : Int32) (o : Int32) (h : FX4_anyHas V x1 x2 = some o) : az_I l yX4_anyHas wsX4_anyHas ({ frames := 3, cells := 0, slots := 0, locals := 69 } : Room) [.ref (ad 16), .int x1, .int x2] g (az_cP g ad V) o (az_cP g ad V) := by
  refine az_body (cc := cX4_anyHas) (maxL := 3) (ret := (some .boolean)) (Qc := fun A => az_QI g (az_cP g ad V) o A) (by decide +kernel) rfl (Nat.le_of_ble_eq_true rfl) ?_
  intro p e s m args below meth c A hx hb hr hts hown hml hlocks hA hK hP hD hS ls hl
  have hl : lv_has ls 3 [(0, .ref (ad 16)), (1, .int x1), (2, .int x2)] := hl
  unfold FX4_anyHas at h
  refine lv_aload_n hx hb dX4_anyHas_0 rfl (lv_at hl 0 rfl) ?_
  refine lv_iload_n hx hb dX4_anyHas_1 rfl (lv_at hl 1 rfl) ?_
  refine lv_iload_n hx hb dX4_anyHas_2 rfl (lv_at hl 2 rfl) ?_
  obtain ⟨o3, hc3, h⟩ := az_bnd h
  refine az_callVi (w2 := az_cP g ad V) (As := [.int x1, .int x2]) (rest := []) ⟨hx, hb, hml, hown, hts⟩ hl.1 (kX4_havers l g ad V x1 x2 o3 hc3) (cwV 2 hts gX4_anyHas_X4_havers rfl rfl rfl (by decide +kernel) ⟨Nat.le_of_ble_eq_true rfl, Nat.le_of_ble_eq_true rfl⟩) rfl hK hP hD hS hA [0, 1, 2] [] [0, 1, 2] rfl rfl rfl rfl rfl (by decide) rfl rfl rfl 0 rfl rfl rfl (Nat.le_of_ble_eq_true rfl) dX4_anyHas_3 ⟨Nat.zero_le _, Nat.zero_le _⟩ rfl (fun H locs hP hD hS => ?_)
  refine lv_if_le (tgt := 13) hx hb dX4_anyHas_6 (by decide) (fun c6 => ?_) (fun c6 => ?_)
  · replace h := az_pos c6 h
    refine lv_iconst (v := (0 : Int32)) hx hb dX4_anyHas_13 (by decide) ?_
    have hP : va_P g.1 az_cl (az_cP g ad V) _ := hP
    have hD : va_D A (az_cP g ad V) := hD
    rw [← Option.some.inj h]
    exact az_zret hx hb hr hlocks rfl hK hP hD hS dX4_anyHas_14
  · replace h := az_neg c6 h
    refine lv_iconst (v := (1 : Int32)) hx hb dX4_anyHas_9 (by decide) ?_
    refine lv_goto (tgt := 14) hx hb dX4_anyHas_10 (by decide) ?_
    have hP : va_P g.1 az_cl (az_cP g ad V) _ := hP
    have hD : va_D A (az_cP g ad V) := hD
    rw [← Option.some.inj h]
    exact az_zret hx hb hr hlocks rfl hK hP hD hS dX4_anyHas_14

def FX4_exchange_L3 : Nat → az_St → Int32 → Int32 → Int32 → (Nat → Int32) → Int32 → Option ((Nat → Int32))
  | 0, _, _, _, _, _, _ => none
  | n + 1, V, x1, x2, x3, wV14, y4 => if (4 : Int32) ≤ y4 then (some (wV14)) else ((FX4_has (va_up V 14 wV14) y4 x1 x2).bind (fun o14 => if o14 = (0 : Int32) then (FX4_exchange_L3 n V x1 x2 x3 wV14 (y4 + (1 : Int32))) else (if az_in ((y4 * (24 : Int32)) + x1) 96 = true then FX4_exchange_L3 n V x1 x2 x3 (upd wV14 ((y4 * (24 : Int32)) + x1).toNatClampNeg x3) (y4 + (1 : Int32)) else none)))
theorem FX4_exchange_L3_s (n : Nat) (V : az_St) (x1 : Int32) (x2 : Int32) (x3 : Int32) (wV14 : Nat → Int32) (y4 : Int32) : FX4_exchange_L3 (n + 1) V x1 x2 x3 wV14 y4 = (if (4 : Int32) ≤ y4 then (some (wV14)) else ((FX4_has (va_up V 14 wV14) y4 x1 x2).bind (fun o14 => if o14 = (0 : Int32) then (FX4_exchange_L3 n V x1 x2 x3 wV14 (y4 + (1 : Int32))) else (if az_in ((y4 * (24 : Int32)) + x1) 96 = true then FX4_exchange_L3 n V x1 x2 x3 (upd wV14 ((y4 * (24 : Int32)) + x1).toNatClampNeg x3) (y4 + (1 : Int32)) else none)))) := rfl
def FX4_exchange (V : az_St) (x1 : Int32) (x2 : Int32) (x3 : Int32) : Option ((Nat → Int32)) := FX4_exchange_L3 az_fuel V x1 x2 x3 (V 14) (0 : Int32)
theorem inX4_exchange_RX4 : ∀ w ∈ wsX40, w ∈ wsX4_exchange := az_inr [11, 12] (by decide +kernel)
set_option maxHeartbeats 4000000 in
set_option maxRecDepth 100000 in
theorem kX4_exchange (l : Launch) (g : az_G) (ad : Nat → Nat) (V : az_St) (x1 : Int32) (x2 : Int32) (x3 : Int32) (o : (Nat → Int32)) (h : FX4_exchange V x1 x2 x3 = some o) : az_V l yX4_exchange wsX4_exchange ({ frames := 2, cells := 0, slots := 0, locals := 45 } : Room) [.ref (ad 16), .int x1, .int x2, .int x3] g (az_cP g ad V) (az_cP g ad (va_up V 14 o)) := by
  refine az_body (cc := cX4_exchange) (maxL := 5) (ret := none) (Qc := fun A => az_QV g (az_cP g ad (va_up V 14 o)) A) (by decide +kernel) rfl (Nat.le_of_ble_eq_true rfl) ?_
  intro p e s m args below meth c A hx hb hr hts hown hml hlocks hA hK hP hD hS ls hl
  have hl : lv_has ls 5 [(0, .ref (ad 16)), (1, .int x1), (2, .int x2), (3, .int x3)] := hl
  unfold FX4_exchange at h
  have hL3 : ∀ (n : Nat) (wV14 : Nat → Int32) (y4 : Int32) (H : Heap) (locs : List Loc) (ls : Array Slot), FX4_exchange_L3 n V x1 x2 x3 wV14 y4 = some o → va_P g.1 az_cl (az_cP g ad (va_up V 14 wV14)) H → va_D A (az_cP g ad (va_up V 14 wV14)) → va_S A s.heap H locs → lv_has ls 5 [(0, .ref (ad 16)), (1, .int x1), (2, .int x2), (3, .int x3), (4, .int y4)] → W p l e ({ frames := 2, cells := 0, slots := 0, locals := 45 } : Room) s m args below meth c H locs 0 0 (MQ below (az_QV g (az_cP g ad (va_up V 14 o)) A) args s 0 0 A) (F0 m 3 ls []) := by
    intro n
    induction n with
    | zero => intro wV14 y4 H locs ls h; exact az_non h
    | succ n ih =>
      intro wV14 y4 H locs ls h hP hD hS hl
      rw [FX4_exchange_L3_s] at h
      refine lv_iload hx hb dX4_exchange_3 (lv_at hl 4 rfl) ?_
      refine lv_iconst (v := (4 : Int32)) hx hb dX4_exchange_5 (by decide) ?_
      refine lv_icmp_ge (tgt := 39) hx hb dX4_exchange_6 (by decide) (fun c6 => ?_) (fun c6 => ?_)
      · replace h := az_pos c6 h
        have hP : va_P g.1 az_cl (az_cP g ad (va_up V 14 wV14)) _ := hP
        have hD : va_D A (az_cP g ad (va_up V 14 wV14)) := hD
        rw [← Option.some.inj h]
        exact az_vret hx hb hr hlocks hK hP hD hS dX4_exchange_39
      · replace h := az_neg c6 h
        refine lv_aload_n hx hb dX4_exchange_9 rfl (lv_at hl 0 rfl) ?_
        refine lv_iload hx hb dX4_exchange_10 (lv_at hl 4 rfl) ?_
        refine lv_iload_n hx hb dX4_exchange_12 rfl (lv_at hl 1 rfl) ?_
        refine lv_iload_n hx hb dX4_exchange_13 rfl (lv_at hl 2 rfl) ?_
        obtain ⟨o14, hc14, h⟩ := az_bnd h
        refine az_callVi (w2 := az_cP g ad (va_up V 14 wV14)) (As := [.int y4, .int x1, .int x2]) (rest := []) ⟨hx, hb, hml, hown, hts⟩ hl.1 (kX4_has l g ad (va_up V 14 wV14) y4 x1 x2 o14 hc14) (cwV 3 hts gX4_exchange_X4_has rfl rfl rfl (by decide +kernel) ⟨Nat.le_of_ble_eq_true rfl, Nat.le_of_ble_eq_true rfl⟩) rfl hK hP hD hS hA [0, 1, 2] [] [0, 1, 2] rfl rfl rfl rfl rfl (by decide) rfl rfl rfl 0 rfl rfl rfl (Nat.le_of_ble_eq_true rfl) dX4_exchange_14 ⟨Nat.zero_le _, Nat.zero_le _⟩ rfl (fun H locs hP hD hS => ?_)
        refine lv_if_eq (tgt := 33) hx hb dX4_exchange_17 (by decide) (fun c17 => ?_) (fun c17 => ?_)
        · replace h := az_pos c17 h
          refine lv_iinc (v := y4 + (1 : Int32)) (lv' := [(4, .int (y4 + (1 : Int32))), (0, .ref (ad 16)), (1, .int x1), (2, .int x2), (3, .int x3)]) hx hb dX4_exchange_33 hl (k := 4) rfl (rfl) (by decide) rfl (fun ls hl => ?_)
          refine lv_goto (tgt := 3) hx hb dX4_exchange_36 (by decide) ?_
          have hP : va_P g.1 az_cl (az_cP g ad (va_up V 14 wV14)) _ := hP
          have hD : va_D A (az_cP g ad (va_up V 14 wV14)) := hD
          exact ih wV14 (y4 + (1 : Int32)) _ _ ls h hP hD hS (lv_sub hl [1, 2, 3, 4, 0] rfl)
        · replace h := az_neg c17 h
          refine lv_aload_n hx hb dX4_exchange_20 rfl (lv_at hl 0 rfl) ?_
          refine va_get (D := g.1) (ci := 4) (v := .ref (ad 18)) (C := RX4) (T := TX4) (N := 2) hx hb hts inX4_exchange_RX4 hown hK hP 0 rfl rfl 1 (Nat.le_of_ble_eq_true rfl) (hts _ (List.mem_of_getElem? (i := 1) rfl)) (fun _ h9 => h9) rfl dX4_exchange_21 ?_
          refine lv_iload hx hb dX4_exchange_24 (lv_at hl 4 rfl) ?_
          refine lv_bipush (v := (24 : Int32)) hx hb dX4_exchange_26 (by decide) ?_
          refine lv_imul hx hb dX4_exchange_28 ?_
          refine lv_iload_n hx hb dX4_exchange_29 rfl (lv_at hl 1 rfl) ?_
          refine lv_iadd hx hb dX4_exchange_30 ?_
          refine lv_iload_n hx hb dX4_exchange_31 rfl (lv_at hl 3 rfl) ?_
          obtain ⟨i32, h⟩ := az_ite h
          refine va_iast (D := g.1) (f := wV14) hx hb hK hP hD hS 2 0 rfl rfl (az_vin i32) dX4_exchange_32 (fun H locs hP hD hS => ?_)
          have hP : va_P g.1 az_cl (az_cP g ad (va_up V 14 (upd wV14 ((y4 * (24 : Int32)) + x1).toNatClampNeg x3))) _ := hP
          have hD : va_D A (az_cP g ad (va_up V 14 (upd wV14 ((y4 * (24 : Int32)) + x1).toNatClampNeg x3))) := hD
          refine lv_iinc (v := y4 + (1 : Int32)) (lv' := [(4, .int (y4 + (1 : Int32))), (0, .ref (ad 16)), (1, .int x1), (2, .int x2), (3, .int x3)]) hx hb dX4_exchange_33 hl (k := 4) rfl (rfl) (by decide) rfl (fun ls hl => ?_)
          refine lv_goto (tgt := 3) hx hb dX4_exchange_36 (by decide) ?_
          have hP : va_P g.1 az_cl (az_cP g ad (va_up V 14 (upd wV14 ((y4 * (24 : Int32)) + x1).toNatClampNeg x3))) _ := hP
          have hD : va_D A (az_cP g ad (va_up V 14 (upd wV14 ((y4 * (24 : Int32)) + x1).toNatClampNeg x3))) := hD
          exact ih (upd wV14 ((y4 * (24 : Int32)) + x1).toNatClampNeg x3) (y4 + (1 : Int32)) _ _ ls h hP hD hS (lv_sub hl [1, 2, 3, 4, 0] rfl)
  refine lv_iconst (v := (0 : Int32)) hx hb dX4_exchange_0 (by decide) ?_
  refine lv_istore (lv' := [(4, .int (0 : Int32)), (0, .ref (ad 16)), (1, .int x1), (2, .int x2), (3, .int x3)]) hx hb dX4_exchange_1 hl (by decide) rfl (fun ls hl => ?_)
  have hP : va_P g.1 az_cl (az_cP g ad (va_up V 14 (V 14))) _ := hP
  have hD : va_D A (az_cP g ad (va_up V 14 (V 14))) := hD
  exact hL3 az_fuel (V 14) (0 : Int32) _ _ ls h hP hD hS (lv_sub hl [1, 2, 3, 4, 0] rfl)
