/-! 22.volume: printed by wip/whole/gen.py out of the printed instructions -/
def FX5_begin (V : az_St) (x1 : Int32) (x2 : Int32) (x3 : Int32) : Option ((Nat → Int32) × (Nat → Int32) × (Nat → Int32) × (Nat → Int32) × (Nat → Int32) × (Nat → Int32) × (Nat → Int32) × (Nat → Int32) × (Nat → Int32) × (Nat → Int32) × (Nat → Int32) × (Nat → Int32) × (Nat → Int32) × (Nat → Int32) × (Nat → Int32) × (Nat → Int32) × (Nat → Int32)) := (FX3_begin V x1 x2).bind (fun o6 => (FX0_begin (va_up (va_up (va_up (va_up (va_up V 0 o6.1) 1 o6.2.1) 2 o6.2.2.1) 3 o6.2.2.2.1) 4 o6.2.2.2.2)).bind (fun o13 => (FX2_begin (va_up (va_up (va_up (va_up (va_up (va_up (va_up (va_up (va_up (va_up (va_up V 0 o6.1) 1 o6.2.1) 2 o6.2.2.1) 3 o6.2.2.2.1) 4 o6.2.2.2.2) 5 o13.1) 6 o13.2.1) 7 o13.2.2.1) 8 o13.2.2.2.1) 9 o13.2.2.2.2.1) 10 o13.2.2.2.2.2)).bind (fun o20 => (FX4_begin (va_up (va_up (va_up (va_up (va_up (va_up (va_up (va_up (va_up (va_up (va_up (va_up (va_up V 0 o6.1) 1 o6.2.1) 2 o6.2.2.1) 3 o6.2.2.2.1) 4 o6.2.2.2.2) 5 o13.1) 6 o13.2.1) 7 o13.2.2.1) 8 o13.2.2.2.1) 9 o13.2.2.2.2.1) 10 o13.2.2.2.2.2) 11 o20.1) 12 o20.2)).bind (fun o27 => (FJ7_fill_53178 24 (fun _ => (V 15)) (-1 : Int32)).bind (fun o35 => az_lt (upd (upd (upd (upd (V 16) 0 x3) 1 (0 : Int32)) 2 (0 : Int32)) 3 (0 : Int32)) (fun u55 => some (o6.1, o6.2.1, o6.2.2.1, o6.2.2.2.1, o6.2.2.2.2, o13.1, o13.2.1, o13.2.2.1, o13.2.2.2.1, o13.2.2.2.2.1, o13.2.2.2.2.2, o20.1, o20.2, o27.1, o27.2, o35, upd (upd u55 4 (0 : Int32)) 5 (0 : Int32))))))))
theorem inX5_begin_RX5 : ∀ w ∈ wsX50, w ∈ wsX5_begin := az_inr [66, 67, 68, 69, 70, 71, 72, 73, 74, 75, 76] (by decide +kernel)
set_option maxHeartbeats 4000000 in
set_option maxRecDepth 100000 in
theorem kX5_begin (l : Launch) (g : az_G) (ad : Nat → Nat) (V : az_St) (x1 : Int32) (x2 : Int32) (x3 : Int32) (o : (Nat → Int32) × (Nat → Int32) × (Nat → Int32) × (Nat → Int32) × (Nat → Int32) × (Nat → Int32) × (Nat → Int32) × (Nat → Int32) × (Nat → Int32) × (Nat → Int32) × (Nat → Int32) × (Nat → Int32) × (Nat → Int32) × (Nat → Int32) × (Nat → Int32) × (Nat → Int32) × (Nat → Int32)) (h : FX5_begin V x1 x2 x3 = some o) : az_V l yX5_begin wsX5_begin ({ frames := 3, cells := 0, slots := 0, locals := 67 } : Room) [.ref (ad 0), .int x1, .int x2, .int x3] g (az_cV g ad V) (az_cV g ad (va_up (va_up (va_up (va_up (va_up (va_up (va_up (va_up (va_up (va_up (va_up (va_up (va_up (va_up (va_up (va_up (va_up V 0 o.1) 1 o.2.1) 2 o.2.2.1) 3 o.2.2.2.1) 4 o.2.2.2.2.1) 5 o.2.2.2.2.2.1) 6 o.2.2.2.2.2.2.1) 7 o.2.2.2.2.2.2.2.1) 8 o.2.2.2.2.2.2.2.2.1) 9 o.2.2.2.2.2.2.2.2.2.1) 10 o.2.2.2.2.2.2.2.2.2.2.1) 11 o.2.2.2.2.2.2.2.2.2.2.2.1) 12 o.2.2.2.2.2.2.2.2.2.2.2.2.1) 13 o.2.2.2.2.2.2.2.2.2.2.2.2.2.1) 14 o.2.2.2.2.2.2.2.2.2.2.2.2.2.2.1) 15 o.2.2.2.2.2.2.2.2.2.2.2.2.2.2.2.1) 16 o.2.2.2.2.2.2.2.2.2.2.2.2.2.2.2.2)) := by
  refine az_body (cc := cX5_begin) (maxL := 4) (ret := none) (Qc := fun A => az_QV g (az_cV g ad (va_up (va_up (va_up (va_up (va_up (va_up (va_up (va_up (va_up (va_up (va_up (va_up (va_up (va_up (va_up (va_up (va_up V 0 o.1) 1 o.2.1) 2 o.2.2.1) 3 o.2.2.2.1) 4 o.2.2.2.2.1) 5 o.2.2.2.2.2.1) 6 o.2.2.2.2.2.2.1) 7 o.2.2.2.2.2.2.2.1) 8 o.2.2.2.2.2.2.2.2.1) 9 o.2.2.2.2.2.2.2.2.2.1) 10 o.2.2.2.2.2.2.2.2.2.2.1) 11 o.2.2.2.2.2.2.2.2.2.2.2.1) 12 o.2.2.2.2.2.2.2.2.2.2.2.2.1) 13 o.2.2.2.2.2.2.2.2.2.2.2.2.2.1) 14 o.2.2.2.2.2.2.2.2.2.2.2.2.2.2.1) 15 o.2.2.2.2.2.2.2.2.2.2.2.2.2.2.2.1) 16 o.2.2.2.2.2.2.2.2.2.2.2.2.2.2.2.2)) A) (by decide +kernel) rfl (Nat.le_of_ble_eq_true rfl) ?_
  intro p e s m args below meth c A hx hb hr hts hown hml hlocks hA hK hP hD hS ls hl
  have hl : lv_has ls 4 [(0, .ref (ad 0)), (1, .int x1), (2, .int x2), (3, .int x3)] := hl
  unfold FX5_begin at h
  refine lv_aload_n hx hb dX5_begin_0 rfl (lv_at hl 0 rfl) ?_
  refine va_get (D := g.1) (ci := 5) (v := .ref (ad 1)) (C := RX5) (T := TX5) (N := 11) hx hb hts inX5_begin_RX5 hown hK hP 0 rfl rfl 0 (Nat.le_of_ble_eq_true rfl) (hts _ (List.mem_of_getElem? (i := 1) rfl)) (fun _ h9 => h9) rfl dX5_begin_1 ?_
  refine lv_iload_n hx hb dX5_begin_4 rfl (lv_at hl 1 rfl) ?_
  refine lv_iload_n hx hb dX5_begin_5 rfl (lv_at hl 2 rfl) ?_
  obtain ⟨o6, hc6, h⟩ := az_bnd h
  refine az_callVv (w2 := az_cV g ad (va_up (va_up (va_up (va_up (va_up V 0 o6.1) 1 o6.2.1) 2 o6.2.2.1) 3 o6.2.2.2.1) 4 o6.2.2.2.2)) (As := [.int x1, .int x2]) (rest := []) ⟨hx, hb, hml, hown, hts⟩ hl.1 (kX3_begin l g ad V x1 x2 o6 hc6) (cwV 2 hts gX5_begin_X3_begin rfl rfl rfl (by decide +kernel) ⟨Nat.le_of_ble_eq_true rfl, Nat.le_of_ble_eq_true rfl⟩) rfl hK hP hD hS hA [1, 2, 3, 4, 5] [0, 6, 7, 8, 9, 10, 11, 12, 13, 14, 15, 16, 17, 18, 19] [0, 15, 16, 17, 18, 19, 1, 2, 3, 4, 5, 6, 7, 8, 9, 10, 11, 12, 13, 14] rfl rfl rfl rfl rfl (by decide) rfl rfl rfl 0 rfl rfl rfl (Nat.le_of_ble_eq_true rfl) dX5_begin_6 ⟨Nat.zero_le _, Nat.zero_le _⟩ rfl (fun H locs hP hD hS => ?_)
  refine lv_aload_n hx hb dX5_begin_9 rfl (lv_at hl 0 rfl) ?_
  refine va_get (D := g.1) (ci := 5) (v := .ref (ad 6)) (C := RX5) (T := TX5) (N := 11) hx hb hts inX5_begin_RX5 hown hK hP 0 rfl rfl 1 (Nat.le_of_ble_eq_true rfl) (hts _ (List.mem_of_getElem? (i := 2) rfl)) (fun _ h9 => h9) rfl dX5_begin_10 ?_
  obtain ⟨o13, hc13, h⟩ := az_bnd h
  refine az_callVv (w2 := az_cV g ad (va_up (va_up (va_up (va_up (va_up (va_up (va_up (va_up (va_up (va_up (va_up V 0 o6.1) 1 o6.2.1) 2 o6.2.2.1) 3 o6.2.2.2.1) 4 o6.2.2.2.2) 5 o13.1) 6 o13.2.1) 7 o13.2.2.1) 8 o13.2.2.2.1) 9 o13.2.2.2.2.1) 10 o13.2.2.2.2.2)) (As := []) (rest := []) ⟨hx, hb, hml, hown, hts⟩ hl.1 (kX0_begin l g ad (va_up (va_up (va_up (va_up (va_up V 0 o6.1) 1 o6.2.1) 2 o6.2.2.1) 3 o6.2.2.2.1) 4 o6.2.2.2.2) o13 hc13) (cwV 0 hts gX5_begin_X0_begin rfl rfl rfl (by decide +kernel) ⟨Nat.le_of_ble_eq_true rfl, Nat.le_of_ble_eq_true rfl⟩) rfl hK hP hD hS hA [6, 7, 8, 9, 10, 11, 12] [0, 1, 2, 3, 4, 5, 13, 14, 15, 16, 17, 18, 19] [0, 1, 2, 3, 4, 5, 13, 14, 15, 16, 17, 18, 19, 6, 7, 8, 9, 10, 11, 12] rfl rfl rfl rfl rfl (by decide) rfl rfl rfl 0 rfl rfl rfl (Nat.le_of_ble_eq_true rfl) dX5_begin_13 ⟨Nat.zero_le _, Nat.zero_le _⟩ rfl (fun H locs hP hD hS => ?_)
  refine lv_aload_n hx hb dX5_begin_16 rfl (lv_at hl 0 rfl) ?_
  refine va_get (D := g.1) (ci := 5) (v := .ref (ad 13)) (C := RX5) (T := TX5) (N := 11) hx hb hts inX5_begin_RX5 hown hK hP 0 rfl rfl 2 (Nat.le_of_ble_eq_true rfl) (hts _ (List.mem_of_getElem? (i := 3) rfl)) (fun _ h9 => h9) rfl dX5_begin_17 ?_
  obtain ⟨o20, hc20, h⟩ := az_bnd h
  refine az_callVv (w2 := az_cV g ad (va_up (va_up (va_up (va_up (va_up (va_up (va_up (va_up (va_up (va_up (va_up (va_up (va_up V 0 o6.1) 1 o6.2.1) 2 o6.2.2.1) 3 o6.2.2.2.1) 4 o6.2.2.2.2) 5 o13.1) 6 o13.2.1) 7 o13.2.2.1) 8 o13.2.2.2.1) 9 o13.2.2.2.2.1) 10 o13.2.2.2.2.2) 11 o20.1) 12 o20.2)) (As := []) (rest := []) ⟨hx, hb, hml, hown, hts⟩ hl.1 (kX2_begin l g ad (va_up (va_up (va_up (va_up (va_up (va_up (va_up (va_up (va_up (va_up (va_up V 0 o6.1) 1 o6.2.1) 2 o6.2.2.1) 3 o6.2.2.2.1) 4 o6.2.2.2.2) 5 o13.1) 6 o13.2.1) 7 o13.2.2.1) 8 o13.2.2.2.1) 9 o13.2.2.2.2.1) 10 o13.2.2.2.2.2) o20 hc20) (cwV 0 hts gX5_begin_X2_begin rfl rfl rfl (by decide +kernel) ⟨Nat.le_of_ble_eq_true rfl, Nat.le_of_ble_eq_true rfl⟩) rfl hK hP hD hS hA [13, 14, 15] [0, 1, 2, 3, 4, 5, 6, 7, 8, 9, 10, 11, 12, 16, 17, 18, 19] [0, 1, 2, 3, 4, 5, 6, 7, 8, 9, 10, 11, 12, 17, 18, 19, 13, 14, 15, 16] rfl rfl rfl rfl rfl (by decide) rfl rfl rfl 0 rfl rfl rfl (Nat.le_of_ble_eq_true rfl) dX5_begin_20 ⟨Nat.zero_le _, Nat.zero_le _⟩ rfl (fun H locs hP hD hS => ?_)
  refine lv_aload_n hx hb dX5_begin_23 rfl (lv_at hl 0 rfl) ?_
  refine va_get (D := g.1) (ci := 5) (v := .ref (ad 16)) (C := RX5) (T := TX5) (N := 11) hx hb hts inX5_begin_RX5 hown hK hP 0 rfl rfl 3 (Nat.le_of_ble_eq_true rfl) (hts _ (List.mem_of_getElem? (i := 4) rfl)) (fun _ h9 => h9) rfl dX5_begin_24 ?_
  obtain ⟨o27, hc27, h⟩ := az_bnd h
  refine az_callVv (w2 := az_cV g ad (va_up (va_up (va_up (va_up (va_up (va_up (va_up (va_up (va_up (va_up (va_up (va_up (va_up (va_up (va_up V 0 o6.1) 1 o6.2.1) 2 o6.2.2.1) 3 o6.2.2.2.1) 4 o6.2.2.2.2) 5 o13.1) 6 o13.2.1) 7 o13.2.2.1) 8 o13.2.2.2.1) 9 o13.2.2.2.2.1) 10 o13.2.2.2.2.2) 11 o20.1) 12 o20.2) 13 o27.1) 14 o27.2)) (As := []) (rest := []) ⟨hx, hb, hml, hown, hts⟩ hl.1 (kX4_begin l g ad (va_up (va_up (va_up (va_up (va_up (va_up (va_up (va_up (va_up (va_up (va_up (va_up (va_up V 0 o6.1) 1 o6.2.1) 2 o6.2.2.1) 3 o6.2.2.2.1) 4 o6.2.2.2.2) 5 o13.1) 6 o13.2.1) 7 o13.2.2.1) 8 o13.2.2.2.1) 9 o13.2.2.2.2.1) 10 o13.2.2.2.2.2) 11 o20.1) 12 o20.2) o27 hc27) (cwV 0 hts gX5_begin_X4_begin rfl rfl rfl (by decide +kernel) ⟨Nat.le_of_ble_eq_true rfl, Nat.le_of_ble_eq_true rfl⟩) rfl hK hP hD hS hA [16, 17, 18] [0, 1, 2, 3, 4, 5, 6, 7, 8, 9, 10, 11, 12, 13, 14, 15, 19] [0, 1, 2, 3, 4, 5, 6, 7, 8, 9, 10, 11, 12, 13, 14, 15, 17, 18, 19, 16] rfl rfl rfl rfl rfl (by decide) rfl rfl rfl 0 rfl rfl rfl (Nat.le_of_ble_eq_true rfl) dX5_begin_27 ⟨Nat.zero_le _, Nat.zero_le _⟩ rfl (fun H locs hP hD hS => ?_)
  refine lv_aload_n hx hb dX5_begin_30 rfl (lv_at hl 0 rfl) ?_
  refine va_get (D := g.1) (ci := 5) (v := .ref (ad 19)) (C := RX5) (T := TX5) (N := 11) hx hb hts inX5_begin_RX5 hown hK hP 0 rfl rfl 4 (Nat.le_of_ble_eq_true rfl) (hts _ (List.mem_of_getElem? (i := 5) rfl)) (fun _ h9 => h9) rfl dX5_begin_31 ?_
  refine lv_iconst (v := (-1 : Int32)) hx hb dX5_begin_34 (by decide) ?_
  obtain ⟨o35, hc35, h⟩ := az_bnd h
  refine az_callSv (w2 := az_cV g ad (va_up (va_up (va_up (va_up (va_up (va_up (va_up (va_up (va_up (va_up (va_up (va_up (va_up (va_up (va_up (va_up V 0 o6.1) 1 o6.2.1) 2 o6.2.2.1) 3 o6.2.2.2.1) 4 o6.2.2.2.2) 5 o13.1) 6 o13.2.1) 7 o13.2.2.1) 8 o13.2.2.2.1) 9 o13.2.2.2.2.1) 10 o13.2.2.2.2.2) 11 o20.1) 12 o20.2) 13 o27.1) 14 o27.2) 15 o35)) (As := [.ref (ad 19), .int (-1 : Int32)]) (rest := []) ⟨hx, hb, hml, hown, hts⟩ hl.1 (kJ7_fill_53178 l g (ad 19) 24 (fun _ => (V 15)) (-1 : Int32) o35 hc35) (va_cwS 2 hts gX5_begin_J7_fill_53178 rfl rfl rfl (by decide +kernel) ⟨Nat.le_of_ble_eq_true rfl, Nat.le_of_ble_eq_true rfl⟩) rfl hK hP hD hS hA [19] [0, 1, 2, 3, 4, 5, 6, 7, 8, 9, 10, 11, 12, 13, 14, 15, 16, 17, 18] [0, 1, 2, 3, 4, 5, 6, 7, 8, 9, 10, 11, 12, 13, 14, 15, 16, 17, 18, 19] rfl rfl rfl rfl rfl (by decide) rfl rfl rfl (Nat.le_of_ble_eq_true rfl) dX5_begin_35 ⟨Nat.zero_le _, Nat.zero_le _⟩ rfl (fun H locs hP hD hS => ?_)
  refine lv_aload_n hx hb dX5_begin_38 rfl (lv_at hl 0 rfl) ?_
  refine lv_iload_n hx hb dX5_begin_39 rfl (lv_at hl 3 rfl) ?_
  refine va_put (D := g.1) (ci := 5) (v := .int x3) (ty := .int) (C := RX5) (T := TX5) (N := 11) hx hb hts inX5_begin_RX5 tyX5 tyX5_ok nmX5 hown hK hP hD hS 0 rfl rfl 5 (Nat.le_of_ble_eq_true rfl) (hts _ (List.mem_of_getElem? (i := 6) rfl)) (fun _ h9 => h9) rfl (by decide +kernel) rfl rfl (Nat.le_of_ble_eq_true rfl) dX5_begin_40 (fun H locs hP hD hS => ?_)
  have hP : va_P g.1 az_cl (az_cV g ad (va_up (va_up (va_up (va_up (va_up (va_up (va_up (va_up (va_up (va_up (va_up (va_up (va_up (va_up (va_up (va_up (va_up V 0 o6.1) 1 o6.2.1) 2 o6.2.2.1) 3 o6.2.2.2.1) 4 o6.2.2.2.2) 5 o13.1) 6 o13.2.1) 7 o13.2.2.1) 8 o13.2.2.2.1) 9 o13.2.2.2.2.1) 10 o13.2.2.2.2.2) 11 o20.1) 12 o20.2) 13 o27.1) 14 o27.2) 15 o35) 16 (upd (V 16) 0 x3))) _ := hP
  have hD : va_D A (az_cV g ad (va_up (va_up (va_up (va_up (va_up (va_up (va_up (va_up (va_up (va_up (va_up (va_up (va_up (va_up (va_up (va_up (va_up V 0 o6.1) 1 o6.2.1) 2 o6.2.2.1) 3 o6.2.2.2.1) 4 o6.2.2.2.2) 5 o13.1) 6 o13.2.1) 7 o13.2.2.1) 8 o13.2.2.2.1) 9 o13.2.2.2.2.1) 10 o13.2.2.2.2.2) 11 o20.1) 12 o20.2) 13 o27.1) 14 o27.2) 15 o35) 16 (upd (V 16) 0 x3))) := hD
  refine lv_aload_n hx hb dX5_begin_43 rfl (lv_at hl 0 rfl) ?_
  refine lv_iconst (v := (0 : Int32)) hx hb dX5_begin_44 (by decide) ?_
  refine va_put (D := g.1) (ci := 5) (v := .int (0 : Int32)) (ty := .int) (C := RX5) (T := TX5) (N := 11) hx hb hts inX5_begin_RX5 tyX5 tyX5_ok nmX5 hown hK hP hD hS 0 rfl rfl 6 (Nat.le_of_ble_eq_true rfl) (hts _ (List.mem_of_getElem? (i := 7) rfl)) (fun _ h9 => h9) rfl (by decide +kernel) rfl rfl (Nat.le_of_ble_eq_true rfl) dX5_begin_45 (fun H locs hP hD hS => ?_)
  have hP : va_P g.1 az_cl (az_cV g ad (va_up (va_up (va_up (va_up (va_up (va_up (va_up (va_up (va_up (va_up (va_up (va_up (va_up (va_up (va_up (va_up (va_up V 0 o6.1) 1 o6.2.1) 2 o6.2.2.1) 3 o6.2.2.2.1) 4 o6.2.2.2.2) 5 o13.1) 6 o13.2.1) 7 o13.2.2.1) 8 o13.2.2.2.1) 9 o13.2.2.2.2.1) 10 o13.2.2.2.2.2) 11 o20.1) 12 o20.2) 13 o27.1) 14 o27.2) 15 o35) 16 (upd (upd (V 16) 0 x3) 1 (0 : Int32)))) _ := hP
  have hD : va_D A (az_cV g ad (va_up (va_up (va_up (va_up (va_up (va_up (va_up (va_up (va_up (va_up (va_up (va_up (va_up (va_up (va_up (va_up (va_up V 0 o6.1) 1 o6.2.1) 2 o6.2.2.1) 3 o6.2.2.2.1) 4 o6.2.2.2.2) 5 o13.1) 6 o13.2.1) 7 o13.2.2.1) 8 o13.2.2.2.1) 9 o13.2.2.2.2.1) 10 o13.2.2.2.2.2) 11 o20.1) 12 o20.2) 13 o27.1) 14 o27.2) 15 o35) 16 (upd (upd (V 16) 0 x3) 1 (0 : Int32)))) := hD
  refine lv_aload_n hx hb dX5_begin_48 rfl (lv_at hl 0 rfl) ?_
  refine lv_iconst (v := (0 : Int32)) hx hb dX5_begin_49 (by decide) ?_
  refine va_put (D := g.1) (ci := 5) (v := .int (0 : Int32)) (ty := .int) (C := RX5) (T := TX5) (N := 11) hx hb hts inX5_begin_RX5 tyX5 tyX5_ok nmX5 hown hK hP hD hS 0 rfl rfl 7 (Nat.le_of_ble_eq_true rfl) (hts _ (List.mem_of_getElem? (i := 8) rfl)) (fun _ h9 => h9) rfl (by decide +kernel) rfl rfl (Nat.le_of_ble_eq_true rfl) dX5_begin_50 (fun H locs hP hD hS => ?_)
  have hP : va_P g.1 az_cl (az_cV g ad (va_up (va_up (va_up (va_up (va_up (va_up (va_up (va_up (va_up (va_up (va_up (va_up (va_up (va_up (va_up (va_up (va_up V 0 o6.1) 1 o6.2.1) 2 o6.2.2.1) 3 o6.2.2.2.1) 4 o6.2.2.2.2) 5 o13.1) 6 o13.2.1) 7 o13.2.2.1) 8 o13.2.2.2.1) 9 o13.2.2.2.2.1) 10 o13.2.2.2.2.2) 11 o20.1) 12 o20.2) 13 o27.1) 14 o27.2) 15 o35) 16 (upd (upd (upd (V 16) 0 x3) 1 (0 : Int32)) 2 (0 : Int32)))) _ := hP
  have hD : va_D A (az_cV g ad (va_up (va_up (va_up (va_up (va_up (va_up (va_up (va_up (va_up (va_up (va_up (va_up (va_up (va_up (va_up (va_up (va_up V 0 o6.1) 1 o6.2.1) 2 o6.2.2.1) 3 o6.2.2.2.1) 4 o6.2.2.2.2) 5 o13.1) 6 o13.2.1) 7 o13.2.2.1) 8 o13.2.2.2.1) 9 o13.2.2.2.2.1) 10 o13.2.2.2.2.2) 11 o20.1) 12 o20.2) 13 o27.1) 14 o27.2) 15 o35) 16 (upd (upd (upd (V 16) 0 x3) 1 (0 : Int32)) 2 (0 : Int32)))) := hD
  refine lv_aload_n hx hb dX5_begin_53 rfl (lv_at hl 0 rfl) ?_
  refine lv_iconst (v := (0 : Int32)) hx hb dX5_begin_54 (by decide) ?_
  refine va_put (D := g.1) (ci := 5) (v := .int (0 : Int32)) (ty := .int) (C := RX5) (T := TX5) (N := 11) hx hb hts inX5_begin_RX5 tyX5 tyX5_ok nmX5 hown hK hP hD hS 0 rfl rfl 8 (Nat.le_of_ble_eq_true rfl) (hts _ (List.mem_of_getElem? (i := 9) rfl)) (fun _ h9 => h9) rfl (by decide +kernel) rfl rfl (Nat.le_of_ble_eq_true rfl) dX5_begin_55 (fun H locs hP hD hS => ?_)
  obtain ⟨u55, e55⟩ : ∃ w : Nat → Int32, w = upd (upd (upd (upd (V 16) 0 x3) 1 (0 : Int32)) 2 (0 : Int32)) 3 (0 : Int32) := ⟨_, rfl⟩
  have hP : va_P g.1 az_cl (az_cV g ad (va_up (va_up (va_up (va_up (va_up (va_up (va_up (va_up (va_up (va_up (va_up (va_up (va_up (va_up (va_up (va_up (va_up V 0 o6.1) 1 o6.2.1) 2 o6.2.2.1) 3 o6.2.2.2.1) 4 o6.2.2.2.2) 5 o13.1) 6 o13.2.1) 7 o13.2.2.1) 8 o13.2.2.2.1) 9 o13.2.2.2.2.1) 10 o13.2.2.2.2.2) 11 o20.1) 12 o20.2) 13 o27.1) 14 o27.2) 15 o35) 16 u55)) H := by rw [e55]; exact hP
  have hD : va_D A (az_cV g ad (va_up (va_up (va_up (va_up (va_up (va_up (va_up (va_up (va_up (va_up (va_up (va_up (va_up (va_up (va_up (va_up (va_up V 0 o6.1) 1 o6.2.1) 2 o6.2.2.1) 3 o6.2.2.2.1) 4 o6.2.2.2.2) 5 o13.1) 6 o13.2.1) 7 o13.2.2.1) 8 o13.2.2.2.1) 9 o13.2.2.2.2.1) 10 o13.2.2.2.2.2) 11 o20.1) 12 o20.2) 13 o27.1) 14 o27.2) 15 o35) 16 u55)) := by rw [e55]; exact hD
  replace h := az_let e55 h
  refine lv_aload_n hx hb dX5_begin_58 rfl (lv_at hl 0 rfl) ?_
  refine lv_iconst (v := (0 : Int32)) hx hb dX5_begin_59 (by decide) ?_
  refine va_put (D := g.1) (ci := 5) (v := .int (0 : Int32)) (ty := .int) (C := RX5) (T := TX5) (N := 11) hx hb hts inX5_begin_RX5 tyX5 tyX5_ok nmX5 hown hK hP hD hS 0 rfl rfl 9 (Nat.le_of_ble_eq_true rfl) (hts _ (List.mem_of_getElem? (i := 10) rfl)) (fun _ h9 => h9) rfl (by decide +kernel) rfl rfl (Nat.le_of_ble_eq_true rfl) dX5_begin_60 (fun H locs hP hD hS => ?_)
  have hP : va_P g.1 az_cl (az_cV g ad (va_up (va_up (va_up (va_up (va_up (va_up (va_up (va_up (va_up (va_up (va_up (va_up (va_up (va_up (va_up (va_up (va_up V 0 o6.1) 1 o6.2.1) 2 o6.2.2.1) 3 o6.2.2.2.1) 4 o6.2.2.2.2) 5 o13.1) 6 o13.2.1) 7 o13.2.2.1) 8 o13.2.2.2.1) 9 o13.2.2.2.2.1) 10 o13.2.2.2.2.2) 11 o20.1) 12 o20.2) 13 o27.1) 14 o27.2) 15 o35) 16 (upd u55 4 (0 : Int32)))) _ := hP
  have hD : va_D A (az_cV g ad (va_up (va_up (va_up (va_up (va_up (va_up (va_up (va_up (va_up (va_up (va_up (va_up (va_up (va_up (va_up (va_up (va_up V 0 o6.1) 1 o6.2.1) 2 o6.2.2.1) 3 o6.2.2.2.1) 4 o6.2.2.2.2) 5 o13.1) 6 o13.2.1) 7 o13.2.2.1) 8 o13.2.2.2.1) 9 o13.2.2.2.2.1) 10 o13.2.2.2.2.2) 11 o20.1) 12 o20.2) 13 o27.1) 14 o27.2) 15 o35) 16 (upd u55 4 (0 : Int32)))) := hD
  refine lv_aload_n hx hb dX5_begin_63 rfl (lv_at hl 0 rfl) ?_
  refine lv_iconst (v := (0 : Int32)) hx hb dX5_begin_64 (by decide) ?_
  refine va_put (D := g.1) (ci := 5) (v := .int (0 : Int32)) (ty := .int) (C := RX5) (T := TX5) (N := 11) hx hb hts inX5_begin_RX5 tyX5 tyX5_ok nmX5 hown hK hP hD hS 0 rfl rfl 10 (Nat.le_of_ble_eq_true rfl) (hts _ (List.mem_of_getElem? (i := 11) rfl)) (fun _ h9 => h9) rfl (by decide +kernel) rfl rfl (Nat.le_of_ble_eq_true rfl) dX5_begin_65 (fun H locs hP hD hS => ?_)
  have hP : va_P g.1 az_cl (az_cV g ad (va_up (va_up (va_up (va_up (va_up (va_up (va_up (va_up (va_up (va_up (va_up (va_up (va_up (va_up (va_up (va_up (va_up V 0 o6.1) 1 o6.2.1) 2 o6.2.2.1) 3 o6.2.2.2.1) 4 o6.2.2.2.2) 5 o13.1) 6 o13.2.1) 7 o13.2.2.1) 8 o13.2.2.2.1) 9 o13.2.2.2.2.1) 10 o13.2.2.2.2.2) 11 o20.1) 12 o20.2) 13 o27.1) 14 o27.2) 15 o35) 16 (upd (upd u55 4 (0 : Int32)) 5 (0 : Int32)))) _ := hP
  have hD : va_D A (az_cV g ad (va_up (va_up (va_up (va_up (va_up (va_up (va_up (va_up (va_up (va_up (va_up (va_up (va_up (va_up (va_up (va_up (va_up V 0 o6.1) 1 o6.2.1) 2 o6.2.2.1) 3 o6.2.2.2.1) 4 o6.2.2.2.2) 5 o13.1) 6 o13.2.1) 7 o13.2.2.1) 8 o13.2.2.2.1) 9 o13.2.2.2.2.1) 10 o13.2.2.2.2.2) 11 o20.1) 12 o20.2) 13 o27.1) 14 o27.2) 15 o35) 16 (upd (upd u55 4 (0 : Int32)) 5 (0 : Int32)))) := hD
  have hP : va_P g.1 az_cl (az_cV g ad (va_up (va_up (va_up (va_up (va_up (va_up (va_up (va_up (va_up (va_up (va_up (va_up (va_up (va_up (va_up (va_up (va_up V 0 o6.1) 1 o6.2.1) 2 o6.2.2.1) 3 o6.2.2.2.1) 4 o6.2.2.2.2) 5 o13.1) 6 o13.2.1) 7 o13.2.2.1) 8 o13.2.2.2.1) 9 o13.2.2.2.2.1) 10 o13.2.2.2.2.2) 11 o20.1) 12 o20.2) 13 o27.1) 14 o27.2) 15 o35) 16 (upd (upd u55 4 (0 : Int32)) 5 (0 : Int32)))) _ := hP
  have hD : va_D A (az_cV g ad (va_up (va_up (va_up (va_up (va_up (va_up (va_up (va_up (va_up (va_up (va_up (va_up (va_up (va_up (va_up (va_up (va_up V 0 o6.1) 1 o6.2.1) 2 o6.2.2.1) 3 o6.2.2.2.1) 4 o6.2.2.2.2) 5 o13.1) 6 o13.2.1) 7 o13.2.2.1) 8 o13.2.2.2.1) 9 o13.2.2.2.2.1) 10 o13.2.2.2.2.2) 11 o20.1) 12 o20.2) 13 o27.1) 14 o27.2) 15 o35) 16 (upd (upd u55 4 (0 : Int32)) 5 (0 : Int32)))) := hD
  rw [← Option.some.inj h]
  exact az_vret hx hb hr hlocks hK hP hD hS dX5_begin_68

def FX5_copyFrom (V : az_St) (O : az_St) : Option ((Nat → Int32) × (Nat → Int32) × (Nat → Int32) × (Nat → Int32) × (Nat → Int32) × (Nat → Int32) × (Nat → Int32) × (Nat → Int32) × (Nat → Int32) × (Nat → Int32) × (Nat → Int32) × (Nat → Int32) × (Nat → Int32) × (Nat → Int32) × (Nat → Int32) × (Nat → Int32) × (Nat → Int32)) := (FX3_copyFrom V O).bind (fun o8 => (FX0_copyFrom (va_up (va_up (va_up (va_up (va_up V 0 o8.1) 1 o8.2.1) 2 o8.2.2.1) 3 o8.2.2.2.1) 4 o8.2.2.2.2) O).bind (fun o19 => (FX2_copyFrom (va_up (va_up (va_up (va_up (va_up (va_up (va_up (va_up (va_up (va_up (va_up V 0 o8.1) 1 o8.2.1) 2 o8.2.2.1) 3 o8.2.2.2.1) 4 o8.2.2.2.2) 5 o19.1) 6 o19.2.1) 7 o19.2.2.1) 8 o19.2.2.2.1) 9 o19.2.2.2.2.1) 10 o19.2.2.2.2.2) O).bind (fun o30 => (FX4_copyFrom (va_up (va_up (va_up (va_up (va_up (va_up (va_up (va_up (va_up (va_up (va_up (va_up (va_up V 0 o8.1) 1 o8.2.1) 2 o8.2.2.1) 3 o8.2.2.2.1) 4 o8.2.2.2.2) 5 o19.1) 6 o19.2.1) 7 o19.2.2.1) 8 o19.2.2.2.1) 9 o19.2.2.2.2.1) 10 o19.2.2.2.2.2) 11 o30.1) 12 o30.2) O).bind (fun o41 => az_lt (upd (upd (upd (V 16) 0 ((O 16) 0)) 1 ((O 16) 1)) 2 ((O 16) 2)) (fun u80 => some (o8.1, o8.2.1, o8.2.2.1, o8.2.2.2.1, o8.2.2.2.2, o19.1, o19.2.1, o19.2.2.1, o19.2.2.2.1, o19.2.2.2.2.1, o19.2.2.2.2.2, o30.1, o30.2, o41.1, o41.2, va_cpy (O 15) (V 15) (0 : Int32).toNatClampNeg (0 : Int32).toNatClampNeg (24 : Int32).toNatClampNeg, upd (upd (upd u80 3 ((O 16) 3)) 4 ((O 16) 4)) 5 ((O 16) 5)))))))
theorem inX5_copyFrom_RX5 : ∀ w ∈ wsX50, w ∈ wsX5_copyFrom := az_inr [56, 57, 58, 59, 60, 61, 62, 63, 64, 65, 66] (by decide +kernel)
set_option maxHeartbeats 4000000 in
set_option maxRecDepth 100000 in
theorem kX5_copyFrom (l : Launch) (g : az_G) (ad : Nat → Nat) (ad2 : Nat → Nat) (V : az_St) (O : az_St) (o : (Nat → Int32) × (Nat → Int32) × (Nat → Int32) × (Nat → Int32) × (Nat → Int32) × (Nat → Int32) × (Nat → Int32) × (Nat → Int32) × (Nat → Int32) × (Nat → Int32) × (Nat → Int32) × (Nat → Int32) × (Nat → Int32) × (Nat → Int32) × (Nat → Int32) × (Nat → Int32) × (Nat → Int32)) (h : FX5_copyFrom V O = some o) : az_V l yX5_copyFrom wsX5_copyFrom ({ frames := 2, cells := 0, slots := 0, locals := 122 } : Room) [.ref (ad 0), .ref (ad2 0)] g ((az_cV g ad V ++ az_cV g ad2 O)) ((az_cV g ad (va_up (va_up (va_up (va_up (va_up (va_up (va_up (va_up (va_up (va_up (va_up (va_up (va_up (va_up (va_up (va_up (va_up V 0 o.1) 1 o.2.1) 2 o.2.2.1) 3 o.2.2.2.1) 4 o.2.2.2.2.1) 5 o.2.2.2.2.2.1) 6 o.2.2.2.2.2.2.1) 7 o.2.2.2.2.2.2.2.1) 8 o.2.2.2.2.2.2.2.2.1) 9 o.2.2.2.2.2.2.2.2.2.1) 10 o.2.2.2.2.2.2.2.2.2.2.1) 11 o.2.2.2.2.2.2.2.2.2.2.2.1) 12 o.2.2.2.2.2.2.2.2.2.2.2.2.1) 13 o.2.2.2.2.2.2.2.2.2.2.2.2.2.1) 14 o.2.2.2.2.2.2.2.2.2.2.2.2.2.2.1) 15 o.2.2.2.2.2.2.2.2.2.2.2.2.2.2.2.1) 16 o.2.2.2.2.2.2.2.2.2.2.2.2.2.2.2.2) ++ az_cV g ad2 O)) := by
  refine az_body (cc := cX5_copyFrom) (maxL := 2) (ret := none) (Qc := fun A => az_QV g ((az_cV g ad (va_up (va_up (va_up (va_up (va_up (va_up (va_up (va_up (va_up (va_up (va_up (va_up (va_up (va_up (va_up (va_up (va_up V 0 o.1) 1 o.2.1) 2 o.2.2.1) 3 o.2.2.2.1) 4 o.2.2.2.2.1) 5 o.2.2.2.2.2.1) 6 o.2.2.2.2.2.2.1) 7 o.2.2.2.2.2.2.2.1) 8 o.2.2.2.2.2.2.2.2.1) 9 o.2.2.2.2.2.2.2.2.2.1) 10 o.2.2.2.2.2.2.2.2.2.2.1) 11 o.2.2.2.2.2.2.2.2.2.2.2.1) 12 o.2.2.2.2.2.2.2.2.2.2.2.2.1) 13 o.2.2.2.2.2.2.2.2.2.2.2.2.2.1) 14 o.2.2.2.2.2.2.2.2.2.2.2.2.2.2.1) 15 o.2.2.2.2.2.2.2.2.2.2.2.2.2.2.2.1) 16 o.2.2.2.2.2.2.2.2.2.2.2.2.2.2.2.2) ++ az_cV g ad2 O)) A) (by decide +kernel) rfl (Nat.le_of_ble_eq_true rfl) ?_
  intro p e s m args below meth c A hx hb hr hts hown hml hlocks hA hK hP hD hS ls hl
  have hl : lv_has ls 2 [(0, .ref (ad 0)), (1, .ref (ad2 0))] := hl
  unfold FX5_copyFrom at h
  refine lv_aload_n hx hb dX5_copyFrom_0 rfl (lv_at hl 0 rfl) ?_
  refine va_get (D := g.1) (ci := 5) (v := .ref (ad 1)) (C := RX5) (T := TX5) (N := 11) hx hb hts inX5_copyFrom_RX5 hown hK hP 0 rfl rfl 0 (Nat.le_of_ble_eq_true rfl) (hts _ (List.mem_of_getElem? (i := 1) rfl)) (fun _ h9 => h9) rfl dX5_copyFrom_1 ?_
  refine lv_aload_n hx hb dX5_copyFrom_4 rfl (lv_at hl 1 rfl) ?_
  refine va_get (D := g.1) (ci := 5) (v := .ref (ad2 1)) (C := RX5) (T := TX5) (N := 11) hx hb hts inX5_copyFrom_RX5 hown hK hP 20 rfl rfl 0 (Nat.le_of_ble_eq_true rfl) (hts _ (List.mem_of_getElem? (i := 1) rfl)) (fun _ h9 => h9) rfl dX5_copyFrom_5 ?_
  obtain ⟨o8, hc8, h⟩ := az_bnd h
  refine az_callVv (w2 := (az_cV g ad (va_up (va_up (va_up (va_up (va_up V 0 o8.1) 1 o8.2.1) 2 o8.2.2.1) 3 o8.2.2.2.1) 4 o8.2.2.2.2) ++ az_cV g ad2 O)) (As := [.ref (ad2 1)]) (rest := []) ⟨hx, hb, hml, hown, hts⟩ hl.1 (kX3_copyFrom l g ad ad2 V O o8 hc8) (cwV 1 hts gX5_copyFrom_X3_copyFrom rfl rfl rfl (by decide +kernel) ⟨Nat.le_of_ble_eq_true rfl, Nat.le_of_ble_eq_true rfl⟩) rfl hK hP hD hS hA [1, 2, 3, 4, 5, 21, 22, 23, 24, 25] [0, 6, 7, 8, 9, 10, 11, 12, 13, 14, 15, 16, 17, 18, 19, 20, 26, 27, 28, 29, 30, 31, 32, 33, 34, 35, 36, 37, 38, 39] [0, 30, 31, 32, 33, 34, 1, 2, 3, 4, 5, 6, 7, 8, 9, 10, 11, 12, 13, 14, 15, 35, 36, 37, 38, 39, 16, 17, 18, 19, 20, 21, 22, 23, 24, 25, 26, 27, 28, 29] rfl rfl rfl rfl rfl (by decide) rfl rfl rfl 0 rfl rfl rfl (Nat.le_of_ble_eq_true rfl) dX5_copyFrom_8 ⟨Nat.zero_le _, Nat.zero_le _⟩ rfl (fun H locs hP hD hS => ?_)
  refine lv_aload_n hx hb dX5_copyFrom_11 rfl (lv_at hl 0 rfl) ?_
  refine va_get (D := g.1) (ci := 5) (v := .ref (ad 6)) (C := RX5) (T := TX5) (N := 11) hx hb hts inX5_copyFrom_RX5 hown hK hP 0 rfl rfl 1 (Nat.le_of_ble_eq_true rfl) (hts _ (List.mem_of_getElem? (i := 2) rfl)) (fun _ h9 => h9) rfl dX5_copyFrom_12 ?_
  refine lv_aload_n hx hb dX5_copyFrom_15 rfl (lv_at hl 1 rfl) ?_
  refine va_get (D := g.1) (ci := 5) (v := .ref (ad2 6)) (C := RX5) (T := TX5) (N := 11) hx hb hts inX5_copyFrom_RX5 hown hK hP 20 rfl rfl 1 (Nat.le_of_ble_eq_true rfl) (hts _ (List.mem_of_getElem? (i := 2) rfl)) (fun _ h9 => h9) rfl dX5_copyFrom_16 ?_
  obtain ⟨o19, hc19, h⟩ := az_bnd h
  refine az_callVv (w2 := (az_cV g ad (va_up (va_up (va_up (va_up (va_up (va_up (va_up (va_up (va_up (va_up (va_up V 0 o8.1) 1 o8.2.1) 2 o8.2.2.1) 3 o8.2.2.2.1) 4 o8.2.2.2.2) 5 o19.1) 6 o19.2.1) 7 o19.2.2.1) 8 o19.2.2.2.1) 9 o19.2.2.2.2.1) 10 o19.2.2.2.2.2) ++ az_cV g ad2 O)) (As := [.ref (ad2 6)]) (rest := []) ⟨hx, hb, hml, hown, hts⟩ hl.1 (kX0_copyFrom l g ad ad2 (va_up (va_up (va_up (va_up (va_up V 0 o8.1) 1 o8.2.1) 2 o8.2.2.1) 3 o8.2.2.2.1) 4 o8.2.2.2.2) O o19 hc19) (cwV 1 hts gX5_copyFrom_X0_copyFrom rfl rfl rfl (by decide +kernel) ⟨Nat.le_of_ble_eq_true rfl, Nat.le_of_ble_eq_true rfl⟩) rfl hK hP hD hS hA [6, 7, 8, 9, 10, 11, 12, 26, 27, 28, 29, 30, 31, 32] [0, 1, 2, 3, 4, 5, 13, 14, 15, 16, 17, 18, 19, 20, 21, 22, 23, 24, 25, 33, 34, 35, 36, 37, 38, 39] [0, 1, 2, 3, 4, 5, 26, 27, 28, 29, 30, 31, 32, 6, 7, 8, 9, 10, 11, 12, 13, 14, 15, 16, 17, 18, 33, 34, 35, 36, 37, 38, 39, 19, 20, 21, 22, 23, 24, 25] rfl rfl rfl rfl rfl (by decide) rfl rfl rfl 0 rfl rfl rfl (Nat.le_of_ble_eq_true rfl) dX5_copyFrom_19 ⟨Nat.zero_le _, Nat.zero_le _⟩ rfl (fun H locs hP hD hS => ?_)
  refine lv_aload_n hx hb dX5_copyFrom_22 rfl (lv_at hl 0 rfl) ?_
  refine va_get (D := g.1) (ci := 5) (v := .ref (ad 13)) (C := RX5) (T := TX5) (N := 11) hx hb hts inX5_copyFrom_RX5 hown hK hP 0 rfl rfl 2 (Nat.le_of_ble_eq_true rfl) (hts _ (List.mem_of_getElem? (i := 3) rfl)) (fun _ h9 => h9) rfl dX5_copyFrom_23 ?_
  refine lv_aload_n hx hb dX5_copyFrom_26 rfl (lv_at hl 1 rfl) ?_
  refine va_get (D := g.1) (ci := 5) (v := .ref (ad2 13)) (C := RX5) (T := TX5) (N := 11) hx hb hts inX5_copyFrom_RX5 hown hK hP 20 rfl rfl 2 (Nat.le_of_ble_eq_true rfl) (hts _ (List.mem_of_getElem? (i := 3) rfl)) (fun _ h9 => h9) rfl dX5_copyFrom_27 ?_
  obtain ⟨o30, hc30, h⟩ := az_bnd h
  refine az_callVv (w2 := (az_cV g ad (va_up (va_up (va_up (va_up (va_up (va_up (va_up (va_up (va_up (va_up (va_up (va_up (va_up V 0 o8.1) 1 o8.2.1) 2 o8.2.2.1) 3 o8.2.2.2.1) 4 o8.2.2.2.2) 5 o19.1) 6 o19.2.1) 7 o19.2.2.1) 8 o19.2.2.2.1) 9 o19.2.2.2.2.1) 10 o19.2.2.2.2.2) 11 o30.1) 12 o30.2) ++ az_cV g ad2 O)) (As := [.ref (ad2 13)]) (rest := []) ⟨hx, hb, hml, hown, hts⟩ hl.1 (kX2_copyFrom l g ad ad2 (va_up (va_up (va_up (va_up (va_up (va_up (va_up (va_up (va_up (va_up (va_up V 0 o8.1) 1 o8.2.1) 2 o8.2.2.1) 3 o8.2.2.2.1) 4 o8.2.2.2.2) 5 o19.1) 6 o19.2.1) 7 o19.2.2.1) 8 o19.2.2.2.1) 9 o19.2.2.2.2.1) 10 o19.2.2.2.2.2) O o30 hc30) (cwV 1 hts gX5_copyFrom_X2_copyFrom rfl rfl rfl (by decide +kernel) ⟨Nat.le_of_ble_eq_true rfl, Nat.le_of_ble_eq_true rfl⟩) rfl hK hP hD hS hA [13, 14, 15, 33, 34, 35] [0, 1, 2, 3, 4, 5, 6, 7, 8, 9, 10, 11, 12, 16, 17, 18, 19, 20, 21, 22, 23, 24, 25, 26, 27, 28, 29, 30, 31, 32, 36, 37, 38, 39] [0, 1, 2, 3, 4, 5, 6, 7, 8, 9, 10, 11, 12, 34, 35, 36, 13, 14, 15, 16, 17, 18, 19, 20, 21, 22, 23, 24, 25, 26, 27, 28, 29, 37, 38, 39, 30, 31, 32, 33] rfl rfl rfl rfl rfl (by decide) rfl rfl rfl 0 rfl rfl rfl (Nat.le_of_ble_eq_true rfl) dX5_copyFrom_30 ⟨Nat.zero_le _, Nat.zero_le _⟩ rfl (fun H locs hP hD hS => ?_)
  refine lv_aload_n hx hb dX5_copyFrom_33 rfl (lv_at hl 0 rfl) ?_
  refine va_get (D := g.1) (ci := 5) (v := .ref (ad 16)) (C := RX5) (T := TX5) (N := 11) hx hb hts inX5_copyFrom_RX5 hown hK hP 0 rfl rfl 3 (Nat.le_of_ble_eq_true rfl) (hts _ (List.mem_of_getElem? (i := 4) rfl)) (fun _ h9 => h9) rfl dX5_copyFrom_34 ?_
  refine lv_aload_n hx hb dX5_copyFrom_37 rfl (lv_at hl 1 rfl) ?_
  refine va_get (D := g.1) (ci := 5) (v := .ref (ad2 16)) (C := RX5) (T := TX5) (N := 11) hx hb hts inX5_copyFrom_RX5 hown hK hP 20 rfl rfl 3 (Nat.le_of_ble_eq_true rfl) (hts _ (List.mem_of_getElem? (i := 4) rfl)) (fun _ h9 => h9) rfl dX5_copyFrom_38 ?_
  obtain ⟨o41, hc41, h⟩ := az_bnd h
  refine az_callVv (w2 := (az_cV g ad (va_up (va_up (va_up (va_up (va_up (va_up (va_up (va_up (va_up (va_up (va_up (va_up (va_up (va_up (va_up V 0 o8.1) 1 o8.2.1) 2 o8.2.2.1) 3 o8.2.2.2.1) 4 o8.2.2.2.2) 5 o19.1) 6 o19.2.1) 7 o19.2.2.1) 8 o19.2.2.2.1) 9 o19.2.2.2.2.1) 10 o19.2.2.2.2.2) 11 o30.1) 12 o30.2) 13 o41.1) 14 o41.2) ++ az_cV g ad2 O)) (As := [.ref (ad2 16)]) (rest := []) ⟨hx, hb, hml, hown, hts⟩ hl.1 (kX4_copyFrom l g ad ad2 (va_up (va_up (va_up (va_up (va_up (va_up (va_up (va_up (va_up (va_up (va_up (va_up (va_up V 0 o8.1) 1 o8.2.1) 2 o8.2.2.1) 3 o8.2.2.2.1) 4 o8.2.2.2.2) 5 o19.1) 6 o19.2.1) 7 o19.2.2.1) 8 o19.2.2.2.1) 9 o19.2.2.2.2.1) 10 o19.2.2.2.2.2) 11 o30.1) 12 o30.2) O o41 hc41) (cwV 1 hts gX5_copyFrom_X4_copyFrom rfl rfl rfl (by decide +kernel) ⟨Nat.le_of_ble_eq_true rfl, Nat.le_of_ble_eq_true rfl⟩) rfl hK hP hD hS hA [16, 17, 18, 36, 37, 38] [0, 1, 2, 3, 4, 5, 6, 7, 8, 9, 10, 11, 12, 13, 14, 15, 19, 20, 21, 22, 23, 24, 25, 26, 27, 28, 29, 30, 31, 32, 33, 34, 35, 39] [0, 1, 2, 3, 4, 5, 6, 7, 8, 9, 10, 11, 12, 13, 14, 15, 34, 35, 36, 16, 17, 18, 19, 20, 21, 22, 23, 24, 25, 26, 27, 28, 29, 30, 31, 32, 37, 38, 39, 33] rfl rfl rfl rfl rfl (by decide) rfl rfl rfl 0 rfl rfl rfl (Nat.le_of_ble_eq_true rfl) dX5_copyFrom_41 ⟨Nat.zero_le _, Nat.zero_le _⟩ rfl (fun H locs hP hD hS => ?_)
  refine lv_aload_n hx hb dX5_copyFrom_44 rfl (lv_at hl 1 rfl) ?_
  refine va_get (D := g.1) (ci := 5) (v := .ref (ad2 19)) (C := RX5) (T := TX5) (N := 11) hx hb hts inX5_copyFrom_RX5 hown hK hP 20 rfl rfl 4 (Nat.le_of_ble_eq_true rfl) (hts _ (List.mem_of_getElem? (i := 5) rfl)) (fun _ h9 => h9) rfl dX5_copyFrom_45 ?_
  refine lv_iconst (v := (0 : Int32)) hx hb dX5_copyFrom_48 (by decide) ?_
  refine lv_aload_n hx hb dX5_copyFrom_49 rfl (lv_at hl 0 rfl) ?_
  refine va_get (D := g.1) (ci := 5) (v := .ref (ad 19)) (C := RX5) (T := TX5) (N := 11) hx hb hts inX5_copyFrom_RX5 hown hK hP 0 rfl rfl 4 (Nat.le_of_ble_eq_true rfl) (hts _ (List.mem_of_getElem? (i := 5) rfl)) (fun _ h9 => h9) rfl dX5_copyFrom_50 ?_
  refine lv_iconst (v := (0 : Int32)) hx hb dX5_copyFrom_53 (by decide) ?_
  refine lv_bipush (v := (24 : Int32)) hx hb dX5_copyFrom_54 (by decide) ?_
  refine va_copyi (D := g.1) (f := (O 15)) (g := (V 15)) (ty := .int) hx hb (hml.trans hl.1.symm) hown (hts _ (List.mem_of_getElem? (i := 6) rfl)) (hts _ (List.mem_of_getElem? (i := 7) rfl)) (hts _ (List.mem_of_getElem? (i := 8) rfl)) (hts _ (List.mem_of_getElem? (i := 9) rfl)) hK hP hD hS 39 19 0 0 rfl rfl rfl rfl rfl (by decide) (by decide) (by decide) (Nat.le_of_ble_eq_true rfl) (Nat.le_of_ble_eq_true rfl) (fun _ _ => rfl) (Nat.le_of_ble_eq_true rfl) (by decide +kernel) dX5_copyFrom_56 (fun H locs hP hD hS => ?_)
  have hP : va_P g.1 az_cl ((az_cV g ad (va_up (va_up (va_up (va_up (va_up (va_up (va_up (va_up (va_up (va_up (va_up (va_up (va_up (va_up (va_up (va_up V 0 o8.1) 1 o8.2.1) 2 o8.2.2.1) 3 o8.2.2.2.1) 4 o8.2.2.2.2) 5 o19.1) 6 o19.2.1) 7 o19.2.2.1) 8 o19.2.2.2.1) 9 o19.2.2.2.2.1) 10 o19.2.2.2.2.2) 11 o30.1) 12 o30.2) 13 o41.1) 14 o41.2) 15 (va_cpy (O 15) (V 15) (0 : Int32).toNatClampNeg (0 : Int32).toNatClampNeg (24 : Int32).toNatClampNeg)) ++ az_cV g ad2 O)) _ := hP
  have hD : va_D A ((az_cV g ad (va_up (va_up (va_up (va_up (va_up (va_up (va_up (va_up (va_up (va_up (va_up (va_up (va_up (va_up (va_up (va_up V 0 o8.1) 1 o8.2.1) 2 o8.2.2.1) 3 o8.2.2.2.1) 4 o8.2.2.2.2) 5 o19.1) 6 o19.2.1) 7 o19.2.2.1) 8 o19.2.2.2.1) 9 o19.2.2.2.2.1) 10 o19.2.2.2.2.2) 11 o30.1) 12 o30.2) 13 o41.1) 14 o41.2) 15 (va_cpy (O 15) (V 15) (0 : Int32).toNatClampNeg (0 : Int32).toNatClampNeg (24 : Int32).toNatClampNeg)) ++ az_cV g ad2 O)) := hD
  refine lv_aload_n hx hb dX5_copyFrom_59 rfl (lv_at hl 0 rfl) ?_
  refine lv_aload_n hx hb dX5_copyFrom_60 rfl (lv_at hl 1 rfl) ?_
  refine va_get (D := g.1) (ci := 5) (v := .int ((O 16) 0)) (C := RX5) (T := TX5) (N := 11) hx hb hts inX5_copyFrom_RX5 hown hK hP 20 rfl rfl 5 (Nat.le_of_ble_eq_true rfl) (hts _ (List.mem_of_getElem? (i := 10) rfl)) (fun _ h9 => h9) rfl dX5_copyFrom_61 ?_
  refine va_put (D := g.1) (ci := 5) (v := .int ((O 16) 0)) (ty := .int) (C := RX5) (T := TX5) (N := 11) hx hb hts inX5_copyFrom_RX5 tyX5 tyX5_ok nmX5 hown hK hP hD hS 0 rfl rfl 5 (Nat.le_of_ble_eq_true rfl) (hts _ (List.mem_of_getElem? (i := 10) rfl)) (fun _ h9 => h9) rfl (by decide +kernel) rfl rfl (Nat.le_of_ble_eq_true rfl) dX5_copyFrom_64 (fun H locs hP hD hS => ?_)
  have hP : va_P g.1 az_cl ((az_cV g ad (va_up (va_up (va_up (va_up (va_up (va_up (va_up (va_up (va_up (va_up (va_up (va_up (va_up (va_up (va_up (va_up (va_up V 0 o8.1) 1 o8.2.1) 2 o8.2.2.1) 3 o8.2.2.2.1) 4 o8.2.2.2.2) 5 o19.1) 6 o19.2.1) 7 o19.2.2.1) 8 o19.2.2.2.1) 9 o19.2.2.2.2.1) 10 o19.2.2.2.2.2) 11 o30.1) 12 o30.2) 13 o41.1) 14 o41.2) 15 (va_cpy (O 15) (V 15) (0 : Int32).toNatClampNeg (0 : Int32).toNatClampNeg (24 : Int32).toNatClampNeg)) 16 (upd (V 16) 0 ((O 16) 0))) ++ az_cV g ad2 O)) _ := hP
  have hD : va_D A ((az_cV g ad (va_up (va_up (va_up (va_up (va_up (va_up (va_up (va_up (va_up (va_up (va_up (va_up (va_up (va_up (va_up (va_up (va_up V 0 o8.1) 1 o8.2.1) 2 o8.2.2.1) 3 o8.2.2.2.1) 4 o8.2.2.2.2) 5 o19.1) 6 o19.2.1) 7 o19.2.2.1) 8 o19.2.2.2.1) 9 o19.2.2.2.2.1) 10 o19.2.2.2.2.2) 11 o30.1) 12 o30.2) 13 o41.1) 14 o41.2) 15 (va_cpy (O 15) (V 15) (0 : Int32).toNatClampNeg (0 : Int32).toNatClampNeg (24 : Int32).toNatClampNeg)) 16 (upd (V 16) 0 ((O 16) 0))) ++ az_cV g ad2 O)) := hD
  refine lv_aload_n hx hb dX5_copyFrom_67 rfl (lv_at hl 0 rfl) ?_
  refine lv_aload_n hx hb dX5_copyFrom_68 rfl (lv_at hl 1 rfl) ?_
  refine va_get (D := g.1) (ci := 5) (v := .int ((O 16) 1)) (C := RX5) (T := TX5) (N := 11) hx hb hts inX5_copyFrom_RX5 hown hK hP 20 rfl rfl 6 (Nat.le_of_ble_eq_true rfl) (hts _ (List.mem_of_getElem? (i := 11) rfl)) (fun _ h9 => h9) rfl dX5_copyFrom_69 ?_
  refine va_put (D := g.1) (ci := 5) (v := .int ((O 16) 1)) (ty := .int) (C := RX5) (T := TX5) (N := 11) hx hb hts inX5_copyFrom_RX5 tyX5 tyX5_ok nmX5 hown hK hP hD hS 0 rfl rfl 6 (Nat.le_of_ble_eq_true rfl) (hts _ (List.mem_of_getElem? (i := 11) rfl)) (fun _ h9 => h9) rfl (by decide +kernel) rfl rfl (Nat.le_of_ble_eq_true rfl) dX5_copyFrom_72 (fun H locs hP hD hS => ?_)
  have hP : va_P g.1 az_cl ((az_cV g ad (va_up (va_up (va_up (va_up (va_up (va_up (va_up (va_up (va_up (va_up (va_up (va_up (va_up (va_up (va_up (va_up (va_up V 0 o8.1) 1 o8.2.1) 2 o8.2.2.1) 3 o8.2.2.2.1) 4 o8.2.2.2.2) 5 o19.1) 6 o19.2.1) 7 o19.2.2.1) 8 o19.2.2.2.1) 9 o19.2.2.2.2.1) 10 o19.2.2.2.2.2) 11 o30.1) 12 o30.2) 13 o41.1) 14 o41.2) 15 (va_cpy (O 15) (V 15) (0 : Int32).toNatClampNeg (0 : Int32).toNatClampNeg (24 : Int32).toNatClampNeg)) 16 (upd (upd (V 16) 0 ((O 16) 0)) 1 ((O 16) 1))) ++ az_cV g ad2 O)) _ := hP
  have hD : va_D A ((az_cV g ad (va_up (va_up (va_up (va_up (va_up (va_up (va_up (va_up (va_up (va_up (va_up (va_up (va_up (va_up (va_up (va_up (va_up V 0 o8.1) 1 o8.2.1) 2 o8.2.2.1) 3 o8.2.2.2.1) 4 o8.2.2.2.2) 5 o19.1) 6 o19.2.1) 7 o19.2.2.1) 8 o19.2.2.2.1) 9 o19.2.2.2.2.1) 10 o19.2.2.2.2.2) 11 o30.1) 12 o30.2) 13 o41.1) 14 o41.2) 15 (va_cpy (O 15) (V 15) (0 : Int32).toNatClampNeg (0 : Int32).toNatClampNeg (24 : Int32).toNatClampNeg)) 16 (upd (upd (V 16) 0 ((O 16) 0)) 1 ((O 16) 1))) ++ az_cV g ad2 O)) := hD
  refine lv_aload_n hx hb dX5_copyFrom_75 rfl (lv_at hl 0 rfl) ?_
  refine lv_aload_n hx hb dX5_copyFrom_76 rfl (lv_at hl 1 rfl) ?_
  refine va_get (D := g.1) (ci := 5) (v := .int ((O 16) 2)) (C := RX5) (T := TX5) (N := 11) hx hb hts inX5_copyFrom_RX5 hown hK hP 20 rfl rfl 7 (Nat.le_of_ble_eq_true rfl) (hts _ (List.mem_of_getElem? (i := 12) rfl)) (fun _ h9 => h9) rfl dX5_copyFrom_77 ?_
  refine va_put (D := g.1) (ci := 5) (v := .int ((O 16) 2)) (ty := .int) (C := RX5) (T := TX5) (N := 11) hx hb hts inX5_copyFrom_RX5 tyX5 tyX5_ok nmX5 hown hK hP hD hS 0 rfl rfl 7 (Nat.le_of_ble_eq_true rfl) (hts _ (List.mem_of_getElem? (i := 12) rfl)) (fun _ h9 => h9) rfl (by decide +kernel) rfl rfl (Nat.le_of_ble_eq_true rfl) dX5_copyFrom_80 (fun H locs hP hD hS => ?_)
  obtain ⟨u80, e80⟩ : ∃ w : Nat → Int32, w = upd (upd (upd (V 16) 0 ((O 16) 0)) 1 ((O 16) 1)) 2 ((O 16) 2) := ⟨_, rfl⟩
  have hP : va_P g.1 az_cl ((az_cV g ad (va_up (va_up (va_up (va_up (va_up (va_up (va_up (va_up (va_up (va_up (va_up (va_up (va_up (va_up (va_up (va_up (va_up V 0 o8.1) 1 o8.2.1) 2 o8.2.2.1) 3 o8.2.2.2.1) 4 o8.2.2.2.2) 5 o19.1) 6 o19.2.1) 7 o19.2.2.1) 8 o19.2.2.2.1) 9 o19.2.2.2.2.1) 10 o19.2.2.2.2.2) 11 o30.1) 12 o30.2) 13 o41.1) 14 o41.2) 15 (va_cpy (O 15) (V 15) (0 : Int32).toNatClampNeg (0 : Int32).toNatClampNeg (24 : Int32).toNatClampNeg)) 16 u80) ++ az_cV g ad2 O)) H := by rw [e80]; exact hP
  have hD : va_D A ((az_cV g ad (va_up (va_up (va_up (va_up (va_up (va_up (va_up (va_up (va_up (va_up (va_up (va_up (va_up (va_up (va_up (va_up (va_up V 0 o8.1) 1 o8.2.1) 2 o8.2.2.1) 3 o8.2.2.2.1) 4 o8.2.2.2.2) 5 o19.1) 6 o19.2.1) 7 o19.2.2.1) 8 o19.2.2.2.1) 9 o19.2.2.2.2.1) 10 o19.2.2.2.2.2) 11 o30.1) 12 o30.2) 13 o41.1) 14 o41.2) 15 (va_cpy (O 15) (V 15) (0 : Int32).toNatClampNeg (0 : Int32).toNatClampNeg (24 : Int32).toNatClampNeg)) 16 u80) ++ az_cV g ad2 O)) := by rw [e80]; exact hD
  replace h := az_let e80 h
  refine lv_aload_n hx hb dX5_copyFrom_83 rfl (lv_at hl 0 rfl) ?_
  refine lv_aload_n hx hb dX5_copyFrom_84 rfl (lv_at hl 1 rfl) ?_
  refine va_get (D := g.1) (ci := 5) (v := .int ((O 16) 3)) (C := RX5) (T := TX5) (N := 11) hx hb hts inX5_copyFrom_RX5 hown hK hP 20 rfl rfl 8 (Nat.le_of_ble_eq_true rfl) (hts _ (List.mem_of_getElem? (i := 13) rfl)) (fun _ h9 => h9) rfl dX5_copyFrom_85 ?_
  refine va_put (D := g.1) (ci := 5) (v := .int ((O 16) 3)) (ty := .int) (C := RX5) (T := TX5) (N := 11) hx hb hts inX5_copyFrom_RX5 tyX5 tyX5_ok nmX5 hown hK hP hD hS 0 rfl rfl 8 (Nat.le_of_ble_eq_true rfl) (hts _ (List.mem_of_getElem? (i := 13) rfl)) (fun _ h9 => h9) rfl (by decide +kernel) rfl rfl (Nat.le_of_ble_eq_true rfl) dX5_copyFrom_88 (fun H locs hP hD hS => ?_)
  have hP : va_P g.1 az_cl ((az_cV g ad (va_up (va_up (va_up (va_up (va_up (va_up (va_up (va_up (va_up (va_up (va_up (va_up (va_up (va_up (va_up (va_up (va_up V 0 o8.1) 1 o8.2.1) 2 o8.2.2.1) 3 o8.2.2.2.1) 4 o8.2.2.2.2) 5 o19.1) 6 o19.2.1) 7 o19.2.2.1) 8 o19.2.2.2.1) 9 o19.2.2.2.2.1) 10 o19.2.2.2.2.2) 11 o30.1) 12 o30.2) 13 o41.1) 14 o41.2) 15 (va_cpy (O 15) (V 15) (0 : Int32).toNatClampNeg (0 : Int32).toNatClampNeg (24 : Int32).toNatClampNeg)) 16 (upd u80 3 ((O 16) 3))) ++ az_cV g ad2 O)) _ := hP
  have hD : va_D A ((az_cV g ad (va_up (va_up (va_up (va_up (va_up (va_up (va_up (va_up (va_up (va_up (va_up (va_up (va_up (va_up (va_up (va_up (va_up V 0 o8.1) 1 o8.2.1) 2 o8.2.2.1) 3 o8.2.2.2.1) 4 o8.2.2.2.2) 5 o19.1) 6 o19.2.1) 7 o19.2.2.1) 8 o19.2.2.2.1) 9 o19.2.2.2.2.1) 10 o19.2.2.2.2.2) 11 o30.1) 12 o30.2) 13 o41.1) 14 o41.2) 15 (va_cpy (O 15) (V 15) (0 : Int32).toNatClampNeg (0 : Int32).toNatClampNeg (24 : Int32).toNatClampNeg)) 16 (upd u80 3 ((O 16) 3))) ++ az_cV g ad2 O)) := hD
  refine lv_aload_n hx hb dX5_copyFrom_91 rfl (lv_at hl 0 rfl) ?_
  refine lv_aload_n hx hb dX5_copyFrom_92 rfl (lv_at hl 1 rfl) ?_
  refine va_get (D := g.1) (ci := 5) (v := .int ((O 16) 4)) (C := RX5) (T := TX5) (N := 11) hx hb hts inX5_copyFrom_RX5 hown hK hP 20 rfl rfl 9 (Nat.le_of_ble_eq_true rfl) (hts _ (List.mem_of_getElem? (i := 14) rfl)) (fun _ h9 => h9) rfl dX5_copyFrom_93 ?_
  refine va_put (D := g.1) (ci := 5) (v := .int ((O 16) 4)) (ty := .int) (C := RX5) (T := TX5) (N := 11) hx hb hts inX5_copyFrom_RX5 tyX5 tyX5_ok nmX5 hown hK hP hD hS 0 rfl rfl 9 (Nat.le_of_ble_eq_true rfl) (hts _ (List.mem_of_getElem? (i := 14) rfl)) (fun _ h9 => h9) rfl (by decide +kernel) rfl rfl (Nat.le_of_ble_eq_true rfl) dX5_copyFrom_96 (fun H locs hP hD hS => ?_)
  have hP : va_P g.1 az_cl ((az_cV g ad (va_up (va_up (va_up (va_up (va_up (va_up (va_up (va_up (va_up (va_up (va_up (va_up (va_up (va_up (va_up (va_up (va_up V 0 o8.1) 1 o8.2.1) 2 o8.2.2.1) 3 o8.2.2.2.1) 4 o8.2.2.2.2) 5 o19.1) 6 o19.2.1) 7 o19.2.2.1) 8 o19.2.2.2.1) 9 o19.2.2.2.2.1) 10 o19.2.2.2.2.2) 11 o30.1) 12 o30.2) 13 o41.1) 14 o41.2) 15 (va_cpy (O 15) (V 15) (0 : Int32).toNatClampNeg (0 : Int32).toNatClampNeg (24 : Int32).toNatClampNeg)) 16 (upd (upd u80 3 ((O 16) 3)) 4 ((O 16) 4))) ++ az_cV g ad2 O)) _ := hP
  have hD : va_D A ((az_cV g ad (va_up (va_up (va_up (va_up (va_up (va_up (va_up (va_up (va_up (va_up (va_up (va_up (va_up (va_up (va_up (va_up (va_up V 0 o8.1) 1 o8.2.1) 2 o8.2.2.1) 3 o8.2.2.2.1) 4 o8.2.2.2.2) 5 o19.1) 6 o19.2.1) 7 o19.2.2.1) 8 o19.2.2.2.1) 9 o19.2.2.2.2.1) 10 o19.2.2.2.2.2) 11 o30.1) 12 o30.2) 13 o41.1) 14 o41.2) 15 (va_cpy (O 15) (V 15) (0 : Int32).toNatClampNeg (0 : Int32).toNatClampNeg (24 : Int32).toNatClampNeg)) 16 (upd (upd u80 3 ((O 16) 3)) 4 ((O 16) 4))) ++ az_cV g ad2 O)) := hD
  refine lv_aload_n hx hb dX5_copyFrom_99 rfl (lv_at hl 0 rfl) ?_
  refine lv_aload_n hx hb dX5_copyFrom_100 rfl (lv_at hl 1 rfl) ?_
  refine va_get (D := g.1) (ci := 5) (v := .int ((O 16) 5)) (C := RX5) (T := TX5) (N := 11) hx hb hts inX5_copyFrom_RX5 hown hK hP 20 rfl rfl 10 (Nat.le_of_ble_eq_true rfl) (hts _ (List.mem_of_getElem? (i := 15) rfl)) (fun _ h9 => h9) rfl dX5_copyFrom_101 ?_
  refine va_put (D := g.1) (ci := 5) (v := .int ((O 16) 5)) (ty := .int) (C := RX5) (T := TX5) (N := 11) hx hb hts inX5_copyFrom_RX5 tyX5 tyX5_ok nmX5 hown hK hP hD hS 0 rfl rfl 10 (Nat.le_of_ble_eq_true rfl) (hts _ (List.mem_of_getElem? (i := 15) rfl)) (fun _ h9 => h9) rfl (by decide +kernel) rfl rfl (Nat.le_of_ble_eq_true rfl) dX5_copyFrom_104 (fun H locs hP hD hS => ?_)
  have hP : va_P g.1 az_cl ((az_cV g ad (va_up (va_up (va_up (va_up (va_up (va_up (va_up (va_up (va_up (va_up (va_up (va_up (va_up (va_up (va_up (va_up (va_up V 0 o8.1) 1 o8.2.1) 2 o8.2.2.1) 3 o8.2.2.2.1) 4 o8.2.2.2.2) 5 o19.1) 6 o19.2.1) 7 o19.2.2.1) 8 o19.2.2.2.1) 9 o19.2.2.2.2.1) 10 o19.2.2.2.2.2) 11 o30.1) 12 o30.2) 13 o41.1) 14 o41.2) 15 (va_cpy (O 15) (V 15) (0 : Int32).toNatClampNeg (0 : Int32).toNatClampNeg (24 : Int32).toNatClampNeg)) 16 (upd (upd (upd u80 3 ((O 16) 3)) 4 ((O 16) 4)) 5 ((O 16) 5))) ++ az_cV g ad2 O)) _ := hP
  have hD : va_D A ((az_cV g ad (va_up (va_up (va_up (va_up (va_up (va_up (va_up (va_up (va_up (va_up (va_up (va_up (va_up (va_up (va_up (va_up (va_up V 0 o8.1) 1 o8.2.1) 2 o8.2.2.1) 3 o8.2.2.2.1) 4 o8.2.2.2.2) 5 o19.1) 6 o19.2.1) 7 o19.2.2.1) 8 o19.2.2.2.1) 9 o19.2.2.2.2.1) 10 o19.2.2.2.2.2) 11 o30.1) 12 o30.2) 13 o41.1) 14 o41.2) 15 (va_cpy (O 15) (V 15) (0 : Int32).toNatClampNeg (0 : Int32).toNatClampNeg (24 : Int32).toNatClampNeg)) 16 (upd (upd (upd u80 3 ((O 16) 3)) 4 ((O 16) 4)) 5 ((O 16) 5))) ++ az_cV g ad2 O)) := hD
  have hP : va_P g.1 az_cl ((az_cV g ad (va_up (va_up (va_up (va_up (va_up (va_up (va_up (va_up (va_up (va_up (va_up (va_up (va_up (va_up (va_up (va_up (va_up V 0 o8.1) 1 o8.2.1) 2 o8.2.2.1) 3 o8.2.2.2.1) 4 o8.2.2.2.2) 5 o19.1) 6 o19.2.1) 7 o19.2.2.1) 8 o19.2.2.2.1) 9 o19.2.2.2.2.1) 10 o19.2.2.2.2.2) 11 o30.1) 12 o30.2) 13 o41.1) 14 o41.2) 15 (va_cpy (O 15) (V 15) (0 : Int32).toNatClampNeg (0 : Int32).toNatClampNeg (24 : Int32).toNatClampNeg)) 16 (upd (upd (upd u80 3 ((O 16) 3)) 4 ((O 16) 4)) 5 ((O 16) 5))) ++ az_cV g ad2 O)) _ := hP
  have hD : va_D A ((az_cV g ad (va_up (va_up (va_up (va_up (va_up (va_up (va_up (va_up (va_up (va_up (va_up (va_up (va_up (va_up (va_up (va_up (va_up V 0 o8.1) 1 o8.2.1) 2 o8.2.2.1) 3 o8.2.2.2.1) 4 o8.2.2.2.2) 5 o19.1) 6 o19.2.1) 7 o19.2.2.1) 8 o19.2.2.2.1) 9 o19.2.2.2.2.1) 10 o19.2.2.2.2.2) 11 o30.1) 12 o30.2) 13 o41.1) 14 o41.2) 15 (va_cpy (O 15) (V 15) (0 : Int32).toNatClampNeg (0 : Int32).toNatClampNeg (24 : Int32).toNatClampNeg)) 16 (upd (upd (upd u80 3 ((O 16) 3)) 4 ((O 16) 4)) 5 ((O 16) 5))) ++ az_cV g ad2 O)) := hD
  rw [← Option.some.inj h]
  exact az_vret hx hb hr hlocks hK hP hD hS dX5_copyFrom_107

def FX5_roomForWrites (V : az_St) : Option (Int32) := (FX3_freeSegments V).bind (fun o5 => az_lt ((if (0 : Int32) < o5 - (1 : Int32) then o5 - (1 : Int32) else (0 : Int32))) (fun z13 => (FX3_unusedAt V (0 : Int32)).bind (fun o19 => some (o19 + (z13 * ((V 4) 1))))))
theorem inX5_roomForWrites_RX3 : ∀ w ∈ wsX30, w ∈ wsX5_roomForWrites := az_inr [32, 33, 34, 35, 36, 37] (by decide +kernel)
theorem inX5_roomForWrites_RX5 : ∀ w ∈ wsX50, w ∈ wsX5_roomForWrites := az_inr [21, 22, 23, 24, 25, 26, 27, 28, 29, 30, 31] (by decide +kernel)
set_option maxHeartbeats 4000000 in
set_option maxRecDepth 100000 in
theorem kX5_roomForWrites (l : Launch) (g : az_G) (ad : Nat → Nat) (V : az_St) (o : Int32) (h : FX5_roomForWrites V = some o) : az_I l yX5_roomForWrites wsX5_roomForWrites ({ frames := 1, cells := 0, slots := 0, locals := 40 } : Room) [.ref (ad 0)] g (az_cV g ad V) o (az_cV g ad V) := by
  refine az_body (cc := cX5_roomForWrites) (maxL := 2) (ret := (some .int)) (Qc := fun A => az_QI g (az_cV g ad V) o A) (by decide +kernel) rfl (Nat.le_of_ble_eq_true rfl) ?_
  intro p e s m args below meth c A hx hb hr hts hown hml hlocks hA hK hP hD hS ls hl
  have hl : lv_has ls 2 [(0, .ref (ad 0))] := hl
  unfold FX5_roomForWrites at h
  refine lv_iconst (v := (0 : Int32)) hx hb dX5_roomForWrites_0 (by decide) ?_
  refine lv_aload_n hx hb dX5_roomForWrites_1 rfl (lv_at hl 0 rfl) ?_
  refine va_get (D := g.1) (ci := 5) (v := .ref (ad 1)) (C := RX5) (T := TX5) (N := 11) hx hb hts inX5_roomForWrites_RX5 hown hK hP 0 rfl rfl 0 (Nat.le_of_ble_eq_true rfl) (hts _ (List.mem_of_getElem? (i := 1) rfl)) (fun _ h9 => h9) rfl dX5_roomForWrites_2 ?_
  obtain ⟨o5, hc5, h⟩ := az_bnd h
  refine az_callVi (w2 := az_cV g ad V) (As := []) (rest := [.int (0 : Int32)]) ⟨hx, hb, hml, hown, hts⟩ hl.1 (kX3_freeSegments l g ad V o5 hc5) (cwV 0 hts gX5_roomForWrites_X3_freeSegments rfl rfl rfl (by decide +kernel) ⟨Nat.le_of_ble_eq_true rfl, Nat.le_of_ble_eq_true rfl⟩) rfl hK hP hD hS hA [1, 2, 3, 4, 5] [0, 6, 7, 8, 9, 10, 11, 12, 13, 14, 15, 16, 17, 18, 19] [0, 15, 16, 17, 18, 19, 1, 2, 3, 4, 5, 6, 7, 8, 9, 10, 11, 12, 13, 14] rfl rfl rfl rfl rfl (by decide) rfl rfl rfl 0 rfl rfl rfl (Nat.le_of_ble_eq_true rfl) dX5_roomForWrites_5 ⟨Nat.zero_le _, Nat.zero_le _⟩ rfl (fun H locs hP hD hS => ?_)
  refine lv_iconst (v := (1 : Int32)) hx hb dX5_roomForWrites_8 (by decide) ?_
  refine lv_isub hx hb dX5_roomForWrites_9 ?_
  refine va_mmax hx hb (hml.trans hl.1.symm) hown (hts _ (List.mem_of_getElem? (i := 2) rfl)) (hts _ (List.mem_of_getElem? (i := 3) rfl)) (hts _ (List.mem_of_getElem? (i := 4) rfl)) (hts _ (List.mem_of_getElem? (i := 5) rfl)) (Nat.le_of_ble_eq_true rfl) (Nat.le_of_ble_eq_true rfl) (Nat.zero_le _) (Nat.zero_le _) dX5_roomForWrites_10 ?_
  refine lv_topi (x := (if (0 : Int32) < o5 - (1 : Int32) then o5 - (1 : Int32) else (0 : Int32))) (fun z13 e13 => ?_)
  replace h := az_let e13 h
  refine lv_istore_n (lv' := [(1, .int z13), (0, .ref (ad 0))]) hx hb dX5_roomForWrites_13 rfl hl (by decide) rfl (fun ls hl => ?_)
  refine lv_aload_n hx hb dX5_roomForWrites_14 rfl (lv_at hl 1 rfl) ?_
  refine va_get (D := g.1) (ci := 5) (v := .ref (ad 1)) (C := RX5) (T := TX5) (N := 11) hx hb hts inX5_roomForWrites_RX5 hown hK hP 0 rfl rfl 0 (Nat.le_of_ble_eq_true rfl) (hts _ (List.mem_of_getElem? (i := 1) rfl)) (fun _ h9 => h9) rfl dX5_roomForWrites_15 ?_
  refine lv_iconst (v := (0 : Int32)) hx hb dX5_roomForWrites_18 (by decide) ?_
  obtain ⟨o19, hc19, h⟩ := az_bnd h
  refine az_callVi (w2 := az_cV g ad V) (As := [.int (0 : Int32)]) (rest := []) ⟨hx, hb, hml, hown, hts⟩ hl.1 (kX3_unusedAt l g ad V (0 : Int32) o19 hc19) (cwV 1 hts gX5_roomForWrites_X3_unusedAt rfl rfl rfl (by decide +kernel) ⟨Nat.le_of_ble_eq_true rfl, Nat.le_of_ble_eq_true rfl⟩) rfl hK hP hD hS hA [1, 2, 3, 4, 5] [0, 6, 7, 8, 9, 10, 11, 12, 13, 14, 15, 16, 17, 18, 19] [0, 15, 16, 17, 18, 19, 1, 2, 3, 4, 5, 6, 7, 8, 9, 10, 11, 12, 13, 14] rfl rfl rfl rfl rfl (by decide) rfl rfl rfl 0 rfl rfl rfl (Nat.le_of_ble_eq_true rfl) dX5_roomForWrites_19 ⟨Nat.zero_le _, Nat.zero_le _⟩ rfl (fun H locs hP hD hS => ?_)
  refine lv_iload_n hx hb dX5_roomForWrites_22 rfl (lv_at hl 0 rfl) ?_
  refine lv_aload_n hx hb dX5_roomForWrites_23 rfl (lv_at hl 1 rfl) ?_
  refine va_get (D := g.1) (ci := 5) (v := .ref (ad 1)) (C := RX5) (T := TX5) (N := 11) hx hb hts inX5_roomForWrites_RX5 hown hK hP 0 rfl rfl 0 (Nat.le_of_ble_eq_true rfl) (hts _ (List.mem_of_getElem? (i := 1) rfl)) (fun _ h9 => h9) rfl dX5_roomForWrites_24 ?_
  refine va_get (D := g.1) (ci := 3) (v := .int ((V 4) 1)) (C := RX3) (T := TX3) (N := 6) hx hb hts inX5_roomForWrites_RX3 hown hK hP 1 rfl rfl 5 (Nat.le_of_ble_eq_true rfl) (hts _ (List.mem_of_getElem? (i := 6) rfl)) (fun _ h9 => h9) rfl dX5_roomForWrites_27 ?_
  refine lv_imul hx hb dX5_roomForWrites_30 ?_
  refine lv_iadd hx hb dX5_roomForWrites_31 ?_
  have hP : va_P g.1 az_cl (az_cV g ad V) _ := hP
  have hD : va_D A (az_cV g ad V) := hD
  rw [← Option.some.inj h]
  exact az_iret hx hb hr hlocks hK hP hD hS dX5_roomForWrites_32

def FX5_roomForRelocation (V : az_St) : Option (Int32) := (FX3_unusedAt V (1 : Int32)).bind (fun o5 => (FX3_freeSegments V).bind (fun o12 => some (o5 + (o12 * ((V 4) 1)))))
theorem inX5_roomForRelocation_RX3 : ∀ w ∈ wsX30, w ∈ wsX5_roomForRelocation := az_inr [28, 29, 30, 31, 32, 33] (by decide +kernel)
theorem inX5_roomForRelocation_RX5 : ∀ w ∈ wsX50, w ∈ wsX5_roomForRelocation := az_inr [17, 18, 19, 20, 21, 22, 23, 24, 25, 26, 27] (by decide +kernel)
set_option maxHeartbeats 4000000 in
set_option maxRecDepth 100000 in
theorem kX5_roomForRelocation (l : Launch) (g : az_G) (ad : Nat → Nat) (V : az_St) (o : Int32) (h : FX5_roomForRelocation V = some o) : az_I l yX5_roomForRelocation wsX5_roomForRelocation ({ frames := 1, cells := 0, slots := 0, locals := 22 } : Room) [.ref (ad 0)] g (az_cV g ad V) o (az_cV g ad V) := by
  refine az_body (cc := cX5_roomForRelocation) (maxL := 1) (ret := (some .int)) (Qc := fun A => az_QI g (az_cV g ad V) o A) (by decide +kernel) rfl (Nat.le_of_ble_eq_true rfl) ?_
  intro p e s m args below meth c A hx hb hr hts hown hml hlocks hA hK hP hD hS ls hl
  have hl : lv_has ls 1 [(0, .ref (ad 0))] := hl
  unfold FX5_roomForRelocation at h
  refine lv_aload_n hx hb dX5_roomForRelocation_0 rfl (lv_at hl 0 rfl) ?_
  refine va_get (D := g.1) (ci := 5) (v := .ref (ad 1)) (C := RX5) (T := TX5) (N := 11) hx hb hts inX5_roomForRelocation_RX5 hown hK hP 0 rfl rfl 0 (Nat.le_of_ble_eq_true rfl) (hts _ (List.mem_of_getElem? (i := 1) rfl)) (fun _ h9 => h9) rfl dX5_roomForRelocation_1 ?_
  refine lv_iconst (v := (1 : Int32)) hx hb dX5_roomForRelocation_4 (by decide) ?_
  obtain ⟨o5, hc5, h⟩ := az_bnd h
  refine az_callVi (w2 := az_cV g ad V) (As := [.int (1 : Int32)]) (rest := []) ⟨hx, hb, hml, hown, hts⟩ hl.1 (kX3_unusedAt l g ad V (1 : Int32) o5 hc5) (cwV 1 hts gX5_roomForRelocation_X3_unusedAt rfl rfl rfl (by decide +kernel) ⟨Nat.le_of_ble_eq_true rfl, Nat.le_of_ble_eq_true rfl⟩) rfl hK hP hD hS hA [1, 2, 3, 4, 5] [0, 6, 7, 8, 9, 10, 11, 12, 13, 14, 15, 16, 17, 18, 19] [0, 15, 16, 17, 18, 19, 1, 2, 3, 4, 5, 6, 7, 8, 9, 10, 11, 12, 13, 14] rfl rfl rfl rfl rfl (by decide) rfl rfl rfl 0 rfl rfl rfl (Nat.le_of_ble_eq_true rfl) dX5_roomForRelocation_5 ⟨Nat.zero_le _, Nat.zero_le _⟩ rfl (fun H locs hP hD hS => ?_)
  refine lv_aload_n hx hb dX5_roomForRelocation_8 rfl (lv_at hl 0 rfl) ?_
  refine va_get (D := g.1) (ci := 5) (v := .ref (ad 1)) (C := RX5) (T := TX5) (N := 11) hx hb hts inX5_roomForRelocation_RX5 hown hK hP 0 rfl rfl 0 (Nat.le_of_ble_eq_true rfl) (hts _ (List.mem_of_getElem? (i := 1) rfl)) (fun _ h9 => h9) rfl dX5_roomForRelocation_9 ?_
  obtain ⟨o12, hc12, h⟩ := az_bnd h
  refine az_callVi (w2 := az_cV g ad V) (As := []) (rest := [.int o5]) ⟨hx, hb, hml, hown, hts⟩ hl.1 (kX3_freeSegments l g ad V o12 hc12) (cwV 0 hts gX5_roomForRelocation_X3_freeSegments rfl rfl rfl (by decide +kernel) ⟨Nat.le_of_ble_eq_true rfl, Nat.le_of_ble_eq_true rfl⟩) rfl hK hP hD hS hA [1, 2, 3, 4, 5] [0, 6, 7, 8, 9, 10, 11, 12, 13, 14, 15, 16, 17, 18, 19] [0, 15, 16, 17, 18, 19, 1, 2, 3, 4, 5, 6, 7, 8, 9, 10, 11, 12, 13, 14] rfl rfl rfl rfl rfl (by decide) rfl rfl rfl 0 rfl rfl rfl (Nat.le_of_ble_eq_true rfl) dX5_roomForRelocation_12 ⟨Nat.zero_le _, Nat.zero_le _⟩ rfl (fun H locs hP hD hS => ?_)
  refine lv_aload_n hx hb dX5_roomForRelocation_15 rfl (lv_at hl 0 rfl) ?_
  refine va_get (D := g.1) (ci := 5) (v := .ref (ad 1)) (C := RX5) (T := TX5) (N := 11) hx hb hts inX5_roomForRelocation_RX5 hown hK hP 0 rfl rfl 0 (Nat.le_of_ble_eq_true rfl) (hts _ (List.mem_of_getElem? (i := 1) rfl)) (fun _ h9 => h9) rfl dX5_roomForRelocation_16 ?_
  refine va_get (D := g.1) (ci := 3) (v := .int ((V 4) 1)) (C := RX3) (T := TX3) (N := 6) hx hb hts inX5_roomForRelocation_RX3 hown hK hP 1 rfl rfl 5 (Nat.le_of_ble_eq_true rfl) (hts _ (List.mem_of_getElem? (i := 2) rfl)) (fun _ h9 => h9) rfl dX5_roomForRelocation_19 ?_
  refine lv_imul hx hb dX5_roomForRelocation_22 ?_
  refine lv_iadd hx hb dX5_roomForRelocation_23 ?_
  have hP : va_P g.1 az_cl (az_cV g ad V) _ := hP
  have hD : va_D A (az_cV g ad V) := hD
  rw [← Option.some.inj h]
  exact az_iret hx hb hr hlocks hK hP hD hS dX5_roomForRelocation_24

def FX5_dropLive (V : az_St) (x1 : Int32) : Option (Int32 × (Nat → Int32) × (Nat → Int32) × (Nat → Int32)) := if az_in x1 24 = true then if (V 15) x1.toNatClampNeg = (-1 : Int32) then (some ((V 15) x1.toNatClampNeg, (V 5), (V 9), upd (V 15) x1.toNatClampNeg (-1 : Int32))) else ((FX4_anyHas (va_up V 15 (upd (V 15) x1.toNatClampNeg (-1 : Int32))) x1 ((V 15) x1.toNatClampNeg)).bind (fun o25 => if o25 = (0 : Int32) then ((FX0_beginToWait (va_up V 15 (upd (V 15) x1.toNatClampNeg (-1 : Int32))) ((V 15) x1.toNatClampNeg) ((V 16) 1)).bind (fun o53 => some ((V 15) x1.toNatClampNeg, o53.1, o53.2, upd (V 15) x1.toNatClampNeg (-1 : Int32)))) else (if az_in ((V 15) x1.toNatClampNeg) 160 = true then az_lt (upd (V 5) ((V 15) x1.toNatClampNeg).toNatClampNeg (2 : Int32)) (fun u40 => some ((V 15) x1.toNatClampNeg, u40, (V 9), upd (V 15) x1.toNatClampNeg (-1 : Int32))) else none))) else none
theorem inX5_dropLive_RX0 : ∀ w ∈ wsX00, w ∈ wsX5_dropLive := az_inr [42, 43, 44, 45, 46, 47] (by decide +kernel)
theorem inX5_dropLive_RX5 : ∀ w ∈ wsX50, w ∈ wsX5_dropLive := az_inr [31, 32, 33, 34, 35, 36, 37, 38, 39, 40, 41] (by decide +kernel)
set_option maxHeartbeats 4000000 in
set_option maxRecDepth 100000 in
theorem kX5_dropLive (l : Launch) (g : az_G) (ad : Nat → Nat) (V : az_St) (x1 : Int32) (o : Int32 × (Nat → Int32) × (Nat → Int32) × (Nat → Int32)) (h : FX5_dropLive V x1 = some o) : az_I l yX5_dropLive wsX5_dropLive ({ frames := 4, cells := 0, slots := 0, locals := 91 } : Room) [.ref (ad 0), .int x1] g (az_cV g ad V) o.1 (az_cV g ad (va_up (va_up (va_up V 5 o.2.1) 9 o.2.2.1) 15 o.2.2.2)) := by
  refine az_body (cc := cX5_dropLive) (maxL := 3) (ret := (some .int)) (Qc := fun A => az_QI g (az_cV g ad (va_up (va_up (va_up V 5 o.2.1) 9 o.2.2.1) 15 o.2.2.2)) o.1 A) (by decide +kernel) rfl (Nat.le_of_ble_eq_true rfl) ?_
  intro p e s m args below meth c A hx hb hr hts hown hml hlocks hA hK hP hD hS ls hl
  have hl : lv_has ls 3 [(0, .ref (ad 0)), (1, .int x1)] := hl
  unfold FX5_dropLive at h
  refine lv_aload_n hx hb dX5_dropLive_0 rfl (lv_at hl 0 rfl) ?_
  refine va_get (D := g.1) (ci := 5) (v := .ref (ad 19)) (C := RX5) (T := TX5) (N := 11) hx hb hts inX5_dropLive_RX5 hown hK hP 0 rfl rfl 4 (Nat.le_of_ble_eq_true rfl) (hts _ (List.mem_of_getElem? (i := 1) rfl)) (fun _ h9 => h9) rfl dX5_dropLive_1 ?_
  refine lv_iload_n hx hb dX5_dropLive_4 rfl (lv_at hl 1 rfl) ?_
  obtain ⟨i5, h⟩ := az_ite h
  refine va_iald (D := g.1) (f := (V 15)) hx hb hK hP 19 0 rfl rfl (az_vin i5) dX5_dropLive_5 ?_
  refine lv_istore_n (lv' := [(2, .int ((V 15) x1.toNatClampNeg)), (0, .ref (ad 0)), (1, .int x1)]) hx hb dX5_dropLive_6 rfl hl (by decide) rfl (fun ls hl => ?_)
  refine lv_aload_n hx hb dX5_dropLive_7 rfl (lv_at hl 1 rfl) ?_
  refine va_get (D := g.1) (ci := 5) (v := .ref (ad 19)) (C := RX5) (T := TX5) (N := 11) hx hb hts inX5_dropLive_RX5 hown hK hP 0 rfl rfl 4 (Nat.le_of_ble_eq_true rfl) (hts _ (List.mem_of_getElem? (i := 1) rfl)) (fun _ h9 => h9) rfl dX5_dropLive_8 ?_
  refine lv_iload_n hx hb dX5_dropLive_11 rfl (lv_at hl 2 rfl) ?_
  refine lv_iconst (v := (-1 : Int32)) hx hb dX5_dropLive_12 (by decide) ?_
  refine va_iast (D := g.1) (f := (V 15)) hx hb hK hP hD hS 19 0 rfl rfl (az_vin i5) dX5_dropLive_13 (fun H locs hP hD hS => ?_)
  have hP : va_P g.1 az_cl (az_cV g ad (va_up V 15 (upd (V 15) x1.toNatClampNeg (-1 : Int32)))) _ := hP
  have hD : va_D A (az_cV g ad (va_up V 15 (upd (V 15) x1.toNatClampNeg (-1 : Int32)))) := hD
  refine lv_iload_n hx hb dX5_dropLive_14 rfl (lv_at hl 0 rfl) ?_
  refine lv_iconst (v := (-1 : Int32)) hx hb dX5_dropLive_15 (by decide) ?_
  refine lv_icmp_eq (tgt := 56) hx hb dX5_dropLive_16 (by decide) (fun c16 => ?_) (fun c16 => ?_)
  · replace h := az_pos c16 h
    refine lv_iload_n hx hb dX5_dropLive_56 rfl (lv_at hl 0 rfl) ?_
    have hP : va_P g.1 az_cl (az_cV g ad (va_up (va_up (va_up V 5 (V 5)) 9 (V 9)) 15 (upd (V 15) x1.toNatClampNeg (-1 : Int32)))) _ := hP
    have hD : va_D A (az_cV g ad (va_up (va_up (va_up V 5 (V 5)) 9 (V 9)) 15 (upd (V 15) x1.toNatClampNeg (-1 : Int32)))) := hD
    rw [← Option.some.inj h]
    exact az_iret hx hb hr hlocks hK hP hD hS dX5_dropLive_57
  · replace h := az_neg c16 h
    refine lv_aload_n hx hb dX5_dropLive_19 rfl (lv_at hl 1 rfl) ?_
    refine va_get (D := g.1) (ci := 5) (v := .ref (ad 16)) (C := RX5) (T := TX5) (N := 11) hx hb hts inX5_dropLive_RX5 hown hK hP 0 rfl rfl 3 (Nat.le_of_ble_eq_true rfl) (hts _ (List.mem_of_getElem? (i := 2) rfl)) (fun _ h9 => h9) rfl dX5_dropLive_20 ?_
    refine lv_iload_n hx hb dX5_dropLive_23 rfl (lv_at hl 2 rfl) ?_
    refine lv_iload_n hx hb dX5_dropLive_24 rfl (lv_at hl 0 rfl) ?_
    obtain ⟨o25, hc25, h⟩ := az_bnd h
    refine az_callVi (w2 := az_cV g ad (va_up V 15 (upd (V 15) x1.toNatClampNeg (-1 : Int32)))) (As := [.int x1, .int ((V 15) x1.toNatClampNeg)]) (rest := []) ⟨hx, hb, hml, hown, hts⟩ hl.1 (kX4_anyHas l g ad (va_up V 15 (upd (V 15) x1.toNatClampNeg (-1 : Int32))) x1 ((V 15) x1.toNatClampNeg) o25 hc25) (cwV 2 hts gX5_dropLive_X4_anyHas rfl rfl rfl (by decide +kernel) ⟨Nat.le_of_ble_eq_true rfl, Nat.le_of_ble_eq_true rfl⟩) rfl hK hP hD hS hA [16, 17, 18] [0, 1, 2, 3, 4, 5, 6, 7, 8, 9, 10, 11, 12, 13, 14, 15, 19] [0, 1, 2, 3, 4, 5, 6, 7, 8, 9, 10, 11, 12, 13, 14, 15, 17, 18, 19, 16] rfl rfl rfl rfl rfl (by decide) rfl rfl rfl 0 rfl rfl rfl (Nat.le_of_ble_eq_true rfl) dX5_dropLive_25 ⟨Nat.zero_le _, Nat.zero_le _⟩ rfl (fun H locs hP hD hS => ?_)
    refine lv_if_eq (tgt := 44) hx hb dX5_dropLive_28 (by decide) (fun c28 => ?_) (fun c28 => ?_)
    · replace h := az_pos c28 h
      refine lv_aload_n hx hb dX5_dropLive_44 rfl (lv_at hl 1 rfl) ?_
      refine va_get (D := g.1) (ci := 5) (v := .ref (ad 6)) (C := RX5) (T := TX5) (N := 11) hx hb hts inX5_dropLive_RX5 hown hK hP 0 rfl rfl 1 (Nat.le_of_ble_eq_true rfl) (hts _ (List.mem_of_getElem? (i := 3) rfl)) (fun _ h9 => h9) rfl dX5_dropLive_45 ?_
      refine lv_iload_n hx hb dX5_dropLive_48 rfl (lv_at hl 0 rfl) ?_
      refine lv_aload_n hx hb dX5_dropLive_49 rfl (lv_at hl 1 rfl) ?_
      refine va_get (D := g.1) (ci := 5) (v := .int ((V 16) 1)) (C := RX5) (T := TX5) (N := 11) hx hb hts inX5_dropLive_RX5 hown hK hP 0 rfl rfl 6 (Nat.le_of_ble_eq_true rfl) (hts _ (List.mem_of_getElem? (i := 5) rfl)) (fun _ h9 => h9) rfl dX5_dropLive_50 ?_
      obtain ⟨o53, hc53, h⟩ := az_bnd h
      refine az_callVv (w2 := az_cV g ad (va_up (va_up (va_up V 5 o53.1) 9 o53.2) 15 (upd (V 15) x1.toNatClampNeg (-1 : Int32)))) (As := [.int ((V 15) x1.toNatClampNeg), .int ((V 16) 1)]) (rest := []) ⟨hx, hb, hml, hown, hts⟩ hl.1 (kX0_beginToWait l g ad (va_up V 15 (upd (V 15) x1.toNatClampNeg (-1 : Int32))) ((V 15) x1.toNatClampNeg) ((V 16) 1) o53 hc53) (cwV 2 hts gX5_dropLive_X0_beginToWait rfl rfl rfl (by decide +kernel) ⟨Nat.le_of_ble_eq_true rfl, Nat.le_of_ble_eq_true rfl⟩) rfl hK hP hD hS hA [6, 7, 8, 9, 10, 11, 12] [0, 1, 2, 3, 4, 5, 13, 14, 15, 16, 17, 18, 19] [0, 1, 2, 3, 4, 5, 13, 14, 15, 16, 17, 18, 19, 6, 7, 8, 9, 10, 11, 12] rfl rfl rfl rfl rfl (by decide) rfl rfl rfl 0 rfl rfl rfl (Nat.le_of_ble_eq_true rfl) dX5_dropLive_53 ⟨Nat.zero_le _, Nat.zero_le _⟩ rfl (fun H locs hP hD hS => ?_)
      refine lv_iload_n hx hb dX5_dropLive_56 rfl (lv_at hl 0 rfl) ?_
      have hP : va_P g.1 az_cl (az_cV g ad (va_up (va_up (va_up V 5 o53.1) 9 o53.2) 15 (upd (V 15) x1.toNatClampNeg (-1 : Int32)))) _ := hP
      have hD : va_D A (az_cV g ad (va_up (va_up (va_up V 5 o53.1) 9 o53.2) 15 (upd (V 15) x1.toNatClampNeg (-1 : Int32)))) := hD
      rw [← Option.some.inj h]
      exact az_iret hx hb hr hlocks hK hP hD hS dX5_dropLive_57
    · replace h := az_neg c28 h
      refine lv_aload_n hx hb dX5_dropLive_31 rfl (lv_at hl 1 rfl) ?_
      refine va_get (D := g.1) (ci := 5) (v := .ref (ad 6)) (C := RX5) (T := TX5) (N := 11) hx hb hts inX5_dropLive_RX5 hown hK hP 0 rfl rfl 1 (Nat.le_of_ble_eq_true rfl) (hts _ (List.mem_of_getElem? (i := 3) rfl)) (fun _ h9 => h9) rfl dX5_dropLive_32 ?_
      refine va_get (D := g.1) (ci := 0) (v := .ref (ad 7)) (C := RX0) (T := TX0) (N := 6) hx hb hts inX5_dropLive_RX0 hown hK hP 6 rfl rfl 0 (Nat.le_of_ble_eq_true rfl) (hts _ (List.mem_of_getElem? (i := 4) rfl)) (fun _ h9 => h9) rfl dX5_dropLive_35 ?_
      refine lv_iload_n hx hb dX5_dropLive_38 rfl (lv_at hl 0 rfl) ?_
      refine lv_iconst (v := (2 : Int32)) hx hb dX5_dropLive_39 (by decide) ?_
      obtain ⟨i40, h⟩ := az_ite h
      refine va_iast (D := g.1) (f := (V 5)) hx hb hK hP hD hS 7 0 rfl rfl (az_vin i40) dX5_dropLive_40 (fun H locs hP hD hS => ?_)
      obtain ⟨u40, e40⟩ : ∃ w : Nat → Int32, w = upd (V 5) ((V 15) x1.toNatClampNeg).toNatClampNeg (2 : Int32) := ⟨_, rfl⟩
      have hP : va_P g.1 az_cl (az_cV g ad (va_up (va_up V 5 u40) 15 (upd (V 15) x1.toNatClampNeg (-1 : Int32)))) H := by rw [e40]; exact hP
      have hD : va_D A (az_cV g ad (va_up (va_up V 5 u40) 15 (upd (V 15) x1.toNatClampNeg (-1 : Int32)))) := by rw [e40]; exact hD
      replace h := az_let e40 h
      refine lv_goto (tgt := 56) hx hb dX5_dropLive_41 (by decide) ?_
      refine lv_iload_n hx hb dX5_dropLive_56 rfl (lv_at hl 0 rfl) ?_
      have hP : va_P g.1 az_cl (az_cV g ad (va_up (va_up (va_up V 5 u40) 9 (V 9)) 15 (upd (V 15) x1.toNatClampNeg (-1 : Int32)))) _ := hP
      have hD : va_D A (az_cV g ad (va_up (va_up (va_up V 5 u40) 9 (V 9)) 15 (upd (V 15) x1.toNatClampNeg (-1 : Int32)))) := hD
      rw [← Option.some.inj h]
      exact az_iret hx hb hr hlocks hK hP hD hS dX5_dropLive_57

def FX5_appendVersion (V : az_St) (x1 : Int32) (x2 : Int32) : Option (Int32 × (Nat → Int32) × (Nat → Int32) × (Nat → Int32) × (Nat → Int32) × (Nat → Int32) × (Nat → Int32) × (Nat → Int32) × (Nat → Int32) × (Nat → Int32) × (Nat → Int32)) := (FX3_appendAt V (0 : Int32)).bind (fun o5 => if o5.1 = (-1 : Int32) then (some (o5.1, o5.2.1, o5.2.2.1, o5.2.2.2, (V 5), (V 6), (V 7), (V 8), (V 9), (V 15), (V 16))) else ((FX5_dropLive (va_up (va_up (va_up V 0 o5.2.1) 2 o5.2.2.1) 3 o5.2.2.2) x1).bind (fun o16 => (FX0_fill (va_up (va_up (va_up (va_up (va_up (va_up V 0 o5.2.1) 2 o5.2.2.1) 3 o5.2.2.2) 5 o16.2.1) 9 o16.2.2.1) 15 o16.2.2.2) o5.1 x1 x2 ((V 16) 3)).bind (fun o31 => if az_in o5.1 160 = true then if az_in x1 24 = true then some (o5.1, o5.2.1, o5.2.2.1, o5.2.2.2, upd o16.2.1 o5.1.toNatClampNeg (1 : Int32), o31.1, o31.2.1, o31.2.2, o16.2.2.1, upd o16.2.2.2 x1.toNatClampNeg o5.1, upd (V 16) 4 (((V 16) 4) + (1 : Int32))) else none else none))))
theorem inX5_appendVersion_RX0 : ∀ w ∈ wsX00, w ∈ wsX5_appendVersion := az_inr [72, 73, 74, 75, 76, 77] (by decide +kernel)
theorem inX5_appendVersion_RX5 : ∀ w ∈ wsX50, w ∈ wsX5_appendVersion := az_inr [61, 62, 63, 64, 65, 66, 67, 68, 69, 70, 71] (by decide +kernel)
set_option maxHeartbeats 4000000 in
set_option maxRecDepth 100000 in
theorem kX5_appendVersion (l : Launch) (g : az_G) (ad : Nat → Nat) (V : az_St) (x1 : Int32) (x2 : Int32) (o : Int32 × (Nat → Int32) × (Nat → Int32) × (Nat → Int32) × (Nat → Int32) × (Nat → Int32) × (Nat → Int32) × (Nat → Int32) × (Nat → Int32) × (Nat → Int32) × (Nat → Int32)) (h : FX5_appendVersion V x1 x2 = some o) : az_I l yX5_appendVersion wsX5_appendVersion ({ frames := 5, cells := 0, slots := 0, locals := 113 } : Room) [.ref (ad 0), .int x1, .int x2] g (az_cV g ad V) o.1 (az_cV g ad (va_up (va_up (va_up (va_up (va_up (va_up (va_up (va_up (va_up (va_up V 0 o.2.1) 2 o.2.2.1) 3 o.2.2.2.1) 5 o.2.2.2.2.1) 6 o.2.2.2.2.2.1) 7 o.2.2.2.2.2.2.1) 8 o.2.2.2.2.2.2.2.1) 9 o.2.2.2.2.2.2.2.2.1) 15 o.2.2.2.2.2.2.2.2.2.1) 16 o.2.2.2.2.2.2.2.2.2.2)) := by
  refine az_body (cc := cX5_appendVersion) (maxL := 4) (ret := (some .int)) (Qc := fun A => az_QI g (az_cV g ad (va_up (va_up (va_up (va_up (va_up (va_up (va_up (va_up (va_up (va_up V 0 o.2.1) 2 o.2.2.1) 3 o.2.2.2.1) 5 o.2.2.2.2.1) 6 o.2.2.2.2.2.1) 7 o.2.2.2.2.2.2.1) 8 o.2.2.2.2.2.2.2.1) 9 o.2.2.2.2.2.2.2.2.1) 15 o.2.2.2.2.2.2.2.2.2.1) 16 o.2.2.2.2.2.2.2.2.2.2)) o.1 A) (by decide +kernel) rfl (Nat.le_of_ble_eq_true rfl) ?_
  intro p e s m args below meth c A hx hb hr hts hown hml hlocks hA hK hP hD hS ls hl
  have hl : lv_has ls 4 [(0, .ref (ad 0)), (1, .int x1), (2, .int x2)] := hl
  unfold FX5_appendVersion at h
  refine lv_aload_n hx hb dX5_appendVersion_0 rfl (lv_at hl 0 rfl) ?_
  refine va_get (D := g.1) (ci := 5) (v := .ref (ad 1)) (C := RX5) (T := TX5) (N := 11) hx hb hts inX5_appendVersion_RX5 hown hK hP 0 rfl rfl 0 (Nat.le_of_ble_eq_true rfl) (hts _ (List.mem_of_getElem? (i := 1) rfl)) (fun _ h9 => h9) rfl dX5_appendVersion_1 ?_
  refine lv_iconst (v := (0 : Int32)) hx hb dX5_appendVersion_4 (by decide) ?_
  obtain ⟨o5, hc5, h⟩ := az_bnd h
  refine az_callVi (w2 := az_cV g ad (va_up (va_up (va_up V 0 o5.2.1) 2 o5.2.2.1) 3 o5.2.2.2)) (As := [.int (0 : Int32)]) (rest := []) ⟨hx, hb, hml, hown, hts⟩ hl.1 (kX3_appendAt l g ad V (0 : Int32) o5 hc5) (cwV 1 hts gX5_appendVersion_X3_appendAt rfl rfl rfl (by decide +kernel) ⟨Nat.le_of_ble_eq_true rfl, Nat.le_of_ble_eq_true rfl⟩) rfl hK hP hD hS hA [1, 2, 3, 4, 5] [0, 6, 7, 8, 9, 10, 11, 12, 13, 14, 15, 16, 17, 18, 19] [0, 15, 16, 17, 18, 19, 1, 2, 3, 4, 5, 6, 7, 8, 9, 10, 11, 12, 13, 14] rfl rfl rfl rfl rfl (by decide) rfl rfl rfl 0 rfl rfl rfl (Nat.le_of_ble_eq_true rfl) dX5_appendVersion_5 ⟨Nat.zero_le _, Nat.zero_le _⟩ rfl (fun H locs hP hD hS => ?_)
  refine lv_istore_n (lv' := [(3, .int o5.1), (0, .ref (ad 0)), (1, .int x1), (2, .int x2)]) hx hb dX5_appendVersion_8 rfl hl (by decide) rfl (fun ls hl => ?_)
  refine lv_iload_n hx hb dX5_appendVersion_9 rfl (lv_at hl 0 rfl) ?_
  refine lv_iconst (v := (-1 : Int32)) hx hb dX5_appendVersion_10 (by decide) ?_
  refine lv_icmp_eq (tgt := 61) hx hb dX5_appendVersion_11 (by decide) (fun c11 => ?_) (fun c11 => ?_)
  · replace h := az_pos c11 h
    refine lv_iload_n hx hb dX5_appendVersion_61 rfl (lv_at hl 0 rfl) ?_
    have hP : va_P g.1 az_cl (az_cV g ad (va_up (va_up (va_up (va_up (va_up (va_up (va_up (va_up (va_up (va_up V 0 o5.2.1) 2 o5.2.2.1) 3 o5.2.2.2) 5 (V 5)) 6 (V 6)) 7 (V 7)) 8 (V 8)) 9 (V 9)) 15 (V 15)) 16 (V 16))) _ := hP
    have hD : va_D A (az_cV g ad (va_up (va_up (va_up (va_up (va_up (va_up (va_up (va_up (va_up (va_up V 0 o5.2.1) 2 o5.2.2.1) 3 o5.2.2.2) 5 (V 5)) 6 (V 6)) 7 (V 7)) 8 (V 8)) 9 (V 9)) 15 (V 15)) 16 (V 16))) := hD
    rw [← Option.some.inj h]
    exact az_iret hx hb hr hlocks hK hP hD hS dX5_appendVersion_62
  · replace h := az_neg c11 h
    refine lv_aload_n hx hb dX5_appendVersion_14 rfl (lv_at hl 1 rfl) ?_
    refine lv_iload_n hx hb dX5_appendVersion_15 rfl (lv_at hl 2 rfl) ?_
    obtain ⟨o16, hc16, h⟩ := az_bnd h
    refine az_callVi (w2 := az_cV g ad (va_up (va_up (va_up (va_up (va_up (va_up V 0 o5.2.1) 2 o5.2.2.1) 3 o5.2.2.2) 5 o16.2.1) 9 o16.2.2.1) 15 o16.2.2.2)) (As := [.int x1]) (rest := []) ⟨hx, hb, hml, hown, hts⟩ hl.1 (kX5_dropLive l g ad (va_up (va_up (va_up V 0 o5.2.1) 2 o5.2.2.1) 3 o5.2.2.2) x1 o16 hc16) (cwV 1 hts gX5_appendVersion_X5_dropLive rfl rfl rfl (by decide +kernel) ⟨Nat.le_of_ble_eq_true rfl, Nat.le_of_ble_eq_true rfl⟩) rfl hK hP hD hS hA [0, 1, 2, 3, 4, 5, 6, 7, 8, 9, 10, 11, 12, 13, 14, 15, 16, 17, 18, 19] [] [0, 1, 2, 3, 4, 5, 6, 7, 8, 9, 10, 11, 12, 13, 14, 15, 16, 17, 18, 19] rfl rfl rfl rfl rfl (by decide) rfl rfl rfl 0 rfl rfl rfl (Nat.le_of_ble_eq_true rfl) dX5_appendVersion_16 ⟨Nat.zero_le _, Nat.zero_le _⟩ rfl (fun H locs hP hD hS => ?_)
    refine lv_pop hx hb dX5_appendVersion_19 rfl ?_
    refine lv_aload_n hx hb dX5_appendVersion_20 rfl (lv_at hl 1 rfl) ?_
    refine va_get (D := g.1) (ci := 5) (v := .ref (ad 6)) (C := RX5) (T := TX5) (N := 11) hx hb hts inX5_appendVersion_RX5 hown hK hP 0 rfl rfl 1 (Nat.le_of_ble_eq_true rfl) (hts _ (List.mem_of_getElem? (i := 2) rfl)) (fun _ h9 => h9) rfl dX5_appendVersion_21 ?_
    refine lv_iload_n hx hb dX5_appendVersion_24 rfl (lv_at hl 0 rfl) ?_
    refine lv_iload_n hx hb dX5_appendVersion_25 rfl (lv_at hl 2 rfl) ?_
    refine lv_iload_n hx hb dX5_appendVersion_26 rfl (lv_at hl 3 rfl) ?_
    refine lv_aload_n hx hb dX5_appendVersion_27 rfl (lv_at hl 1 rfl) ?_
    refine va_get (D := g.1) (ci := 5) (v := .int ((V 16) 3)) (C := RX5) (T := TX5) (N := 11) hx hb hts inX5_appendVersion_RX5 hown hK hP 0 rfl rfl 8 (Nat.le_of_ble_eq_true rfl) (hts _ (List.mem_of_getElem? (i := 3) rfl)) (fun _ h9 => h9) rfl dX5_appendVersion_28 ?_
    obtain ⟨o31, hc31, h⟩ := az_bnd h
    refine az_callVv (w2 := az_cV g ad (va_up (va_up (va_up (va_up (va_up (va_up (va_up (va_up (va_up V 0 o5.2.1) 2 o5.2.2.1) 3 o5.2.2.2) 5 o16.2.1) 6 o31.1) 7 o31.2.1) 8 o31.2.2) 9 o16.2.2.1) 15 o16.2.2.2)) (As := [.int o5.1, .int x1, .int x2, .int ((V 16) 3)]) (rest := []) ⟨hx, hb, hml, hown, hts⟩ hl.1 (kX0_fill l g ad (va_up (va_up (va_up (va_up (va_up (va_up V 0 o5.2.1) 2 o5.2.2.1) 3 o5.2.2.2) 5 o16.2.1) 9 o16.2.2.1) 15 o16.2.2.2) o5.1 x1 x2 ((V 16) 3) o31 hc31) (cwV 4 hts gX5_appendVersion_X0_fill rfl rfl rfl (by decide +kernel) ⟨Nat.le_of_ble_eq_true rfl, Nat.le_of_ble_eq_true rfl⟩) rfl hK hP hD hS hA [6, 7, 8, 9, 10, 11, 12] [0, 1, 2, 3, 4, 5, 13, 14, 15, 16, 17, 18, 19] [0, 1, 2, 3, 4, 5, 13, 14, 15, 16, 17, 18, 19, 6, 7, 8, 9, 10, 11, 12] rfl rfl rfl rfl rfl (by decide) rfl rfl rfl 0 rfl rfl rfl (Nat.le_of_ble_eq_true rfl) dX5_appendVersion_31 ⟨Nat.zero_le _, Nat.zero_le _⟩ rfl (fun H locs hP hD hS => ?_)
    refine lv_aload_n hx hb dX5_appendVersion_34 rfl (lv_at hl 1 rfl) ?_
    refine va_get (D := g.1) (ci := 5) (v := .ref (ad 6)) (C := RX5) (T := TX5) (N := 11) hx hb hts inX5_appendVersion_RX5 hown hK hP 0 rfl rfl 1 (Nat.le_of_ble_eq_true rfl) (hts _ (List.mem_of_getElem? (i := 2) rfl)) (fun _ h9 => h9) rfl dX5_appendVersion_35 ?_
    refine va_get (D := g.1) (ci := 0) (v := .ref (ad 7)) (C := RX0) (T := TX0) (N := 6) hx hb hts inX5_appendVersion_RX0 hown hK hP 6 rfl rfl 0 (Nat.le_of_ble_eq_true rfl) (hts _ (List.mem_of_getElem? (i := 4) rfl)) (fun _ h9 => h9) rfl dX5_appendVersion_38 ?_
    refine lv_iload_n hx hb dX5_appendVersion_41 rfl (lv_at hl 0 rfl) ?_
    refine lv_iconst (v := (1 : Int32)) hx hb dX5_appendVersion_42 (by decide) ?_
    obtain ⟨i43, h⟩ := az_ite h
    refine va_iast (D := g.1) (f := o16.2.1) hx hb hK hP hD hS 7 0 rfl rfl (az_vin i43) dX5_appendVersion_43 (fun H locs hP hD hS => ?_)
    have hP : va_P g.1 az_cl (az_cV g ad (va_up (va_up (va_up (va_up (va_up (va_up (va_up (va_up (va_up V 0 o5.2.1) 2 o5.2.2.1) 3 o5.2.2.2) 5 (upd o16.2.1 o5.1.toNatClampNeg (1 : Int32))) 6 o31.1) 7 o31.2.1) 8 o31.2.2) 9 o16.2.2.1) 15 o16.2.2.2)) _ := hP
    have hD : va_D A (az_cV g ad (va_up (va_up (va_up (va_up (va_up (va_up (va_up (va_up (va_up V 0 o5.2.1) 2 o5.2.2.1) 3 o5.2.2.2) 5 (upd o16.2.1 o5.1.toNatClampNeg (1 : Int32))) 6 o31.1) 7 o31.2.1) 8 o31.2.2) 9 o16.2.2.1) 15 o16.2.2.2)) := hD
    refine lv_aload_n hx hb dX5_appendVersion_44 rfl (lv_at hl 1 rfl) ?_
    refine va_get (D := g.1) (ci := 5) (v := .ref (ad 19)) (C := RX5) (T := TX5) (N := 11) hx hb hts inX5_appendVersion_RX5 hown hK hP 0 rfl rfl 4 (Nat.le_of_ble_eq_true rfl) (hts _ (List.mem_of_getElem? (i := 5) rfl)) (fun _ h9 => h9) rfl dX5_appendVersion_45 ?_
    refine lv_iload_n hx hb dX5_appendVersion_48 rfl (lv_at hl 2 rfl) ?_
    refine lv_iload_n hx hb dX5_appendVersion_49 rfl (lv_at hl 0 rfl) ?_
    obtain ⟨i50, h⟩ := az_ite h
    refine va_iast (D := g.1) (f := o16.2.2.2) hx hb hK hP hD hS 19 0 rfl rfl (az_vin i50) dX5_appendVersion_50 (fun H locs hP hD hS => ?_)
    have hP : va_P g.1 az_cl (az_cV g ad (va_up (va_up (va_up (va_up (va_up (va_up (va_up (va_up (va_up V 0 o5.2.1) 2 o5.2.2.1) 3 o5.2.2.2) 5 (upd o16.2.1 o5.1.toNatClampNeg (1 : Int32))) 6 o31.1) 7 o31.2.1) 8 o31.2.2) 9 o16.2.2.1) 15 (upd o16.2.2.2 x1.toNatClampNeg o5.1))) _ := hP
    have hD : va_D A (az_cV g ad (va_up (va_up (va_up (va_up (va_up (va_up (va_up (va_up (va_up V 0 o5.2.1) 2 o5.2.2.1) 3 o5.2.2.2) 5 (upd o16.2.1 o5.1.toNatClampNeg (1 : Int32))) 6 o31.1) 7 o31.2.1) 8 o31.2.2) 9 o16.2.2.1) 15 (upd o16.2.2.2 x1.toNatClampNeg o5.1))) := hD
    refine lv_aload_n hx hb dX5_appendVersion_51 rfl (lv_at hl 1 rfl) ?_
    refine lv_dup hx hb dX5_appendVersion_52 rfl ?_
    refine va_get (D := g.1) (ci := 5) (v := .int ((V 16) 4)) (C := RX5) (T := TX5) (N := 11) hx hb hts inX5_appendVersion_RX5 hown hK hP 0 rfl rfl 9 (Nat.le_of_ble_eq_true rfl) (hts _ (List.mem_of_getElem? (i := 6) rfl)) (fun _ h9 => h9) rfl dX5_appendVersion_53 ?_
    refine lv_iconst (v := (1 : Int32)) hx hb dX5_appendVersion_56 (by decide) ?_
    refine lv_iadd hx hb dX5_appendVersion_57 ?_
    refine va_put (D := g.1) (ci := 5) (v := .int (((V 16) 4) + (1 : Int32))) (ty := .int) (C := RX5) (T := TX5) (N := 11) hx hb hts inX5_appendVersion_RX5 tyX5 tyX5_ok nmX5 hown hK hP hD hS 0 rfl rfl 9 (Nat.le_of_ble_eq_true rfl) (hts _ (List.mem_of_getElem? (i := 6) rfl)) (fun _ h9 => h9) rfl (by decide +kernel) rfl rfl (Nat.le_of_ble_eq_true rfl) dX5_appendVersion_58 (fun H locs hP hD hS => ?_)
    have hP : va_P g.1 az_cl (az_cV g ad (va_up (va_up (va_up (va_up (va_up (va_up (va_up (va_up (va_up (va_up V 0 o5.2.1) 2 o5.2.2.1) 3 o5.2.2.2) 5 (upd o16.2.1 o5.1.toNatClampNeg (1 : Int32))) 6 o31.1) 7 o31.2.1) 8 o31.2.2) 9 o16.2.2.1) 15 (upd o16.2.2.2 x1.toNatClampNeg o5.1)) 16 (upd (V 16) 4 (((V 16) 4) + (1 : Int32))))) _ := hP
    have hD : va_D A (az_cV g ad (va_up (va_up (va_up (va_up (va_up (va_up (va_up (va_up (va_up (va_up V 0 o5.2.1) 2 o5.2.2.1) 3 o5.2.2.2) 5 (upd o16.2.1 o5.1.toNatClampNeg (1 : Int32))) 6 o31.1) 7 o31.2.1) 8 o31.2.2) 9 o16.2.2.1) 15 (upd o16.2.2.2 x1.toNatClampNeg o5.1)) 16 (upd (V 16) 4 (((V 16) 4) + (1 : Int32))))) := hD
    refine lv_iload_n hx hb dX5_appendVersion_61 rfl (lv_at hl 0 rfl) ?_
    have hP : va_P g.1 az_cl (az_cV g ad (va_up (va_up (va_up (va_up (va_up (va_up (va_up (va_up (va_up (va_up V 0 o5.2.1) 2 o5.2.2.1) 3 o5.2.2.2) 5 (upd o16.2.1 o5.1.toNatClampNeg (1 : Int32))) 6 o31.1) 7 o31.2.1) 8 o31.2.2) 9 o16.2.2.1) 15 (upd o16.2.2.2 x1.toNatClampNeg o5.1)) 16 (upd (V 16) 4 (((V 16) 4) + (1 : Int32))))) _ := hP
    have hD : va_D A (az_cV g ad (va_up (va_up (va_up (va_up (va_up (va_up (va_up (va_up (va_up (va_up V 0 o5.2.1) 2 o5.2.2.1) 3 o5.2.2.2) 5 (upd o16.2.1 o5.1.toNatClampNeg (1 : Int32))) 6 o31.1) 7 o31.2.1) 8 o31.2.2) 9 o16.2.2.1) 15 (upd o16.2.2.2 x1.toNatClampNeg o5.1)) 16 (upd (V 16) 4 (((V 16) 4) + (1 : Int32))))) := hD
    rw [← Option.some.inj h]
    exact az_iret hx hb hr hlocks hK hP hD hS dX5_appendVersion_62

def FX5_isOwn (V : az_St) (x1 : Int32) (x2 : Int32) : Option (Int32) := (FX4_blockOf V x1 x2).bind (fun o6 => if o6 = (-1 : Int32) then (some ((0 : Int32))) else (if az_in o6 160 = true then if (V 5) o6.toNatClampNeg = (2 : Int32) then ((FX4_havers V x2 o6).bind (fun o34 => if o34 = (1 : Int32) then (some ((1 : Int32))) else (some ((0 : Int32))))) else (some ((0 : Int32))) else none))
theorem inX5_isOwn_RX0 : ∀ w ∈ wsX00, w ∈ wsX5_isOwn := az_inr [30, 31, 32, 33, 34, 35] (by decide +kernel)
theorem inX5_isOwn_RX5 : ∀ w ∈ wsX50, w ∈ wsX5_isOwn := az_inr [19, 20, 21, 22, 23, 24, 25, 26, 27, 28, 29] (by decide +kernel)
set_option maxHeartbeats 4000000 in
set_option maxRecDepth 100000 in
theorem kX5_isOwn (l : Launch) (g : az_G) (ad : Nat → Nat) (V : az_St) (x1 : Int32) (x2 : Int32) (o : Int32) (h : FX5_isOwn V x1 x2 = some o) : az_I l yX5_isOwn wsX5_isOwn ({ frames := 3, cells := 0, slots := 0, locals := 69 } : Room) [.ref (ad 0), .int x1, .int x2] g (az_cV g ad V) o (az_cV g ad V) := by
  refine az_body (cc := cX5_isOwn) (maxL := 4) (ret := (some .boolean)) (Qc := fun A => az_QI g (az_cV g ad V) o A) (by decide +kernel) rfl (Nat.le_of_ble_eq_true rfl) ?_
  intro p e s m args below meth c A hx hb hr hts hown hml hlocks hA hK hP hD hS ls hl
  have hl : lv_has ls 4 [(0, .ref (ad 0)), (1, .int x1), (2, .int x2)] := hl
  unfold FX5_isOwn at h
  refine lv_aload_n hx hb dX5_isOwn_0 rfl (lv_at hl 0 rfl) ?_
  refine va_get (D := g.1) (ci := 5) (v := .ref (ad 16)) (C := RX5) (T := TX5) (N := 11) hx hb hts inX5_isOwn_RX5 hown hK hP 0 rfl rfl 3 (Nat.le_of_ble_eq_true rfl) (hts _ (List.mem_of_getElem? (i := 1) rfl)) (fun _ h9 => h9) rfl dX5_isOwn_1 ?_
  refine lv_iload_n hx hb dX5_isOwn_4 rfl (lv_at hl 1 rfl) ?_
  refine lv_iload_n hx hb dX5_isOwn_5 rfl (lv_at hl 2 rfl) ?_
  obtain ⟨o6, hc6, h⟩ := az_bnd h
  refine az_callVi (w2 := az_cV g ad V) (As := [.int x1, .int x2]) (rest := []) ⟨hx, hb, hml, hown, hts⟩ hl.1 (kX4_blockOf l g ad V x1 x2 o6 hc6) (cwV 2 hts gX5_isOwn_X4_blockOf rfl rfl rfl (by decide +kernel) ⟨Nat.le_of_ble_eq_true rfl, Nat.le_of_ble_eq_true rfl⟩) rfl hK hP hD hS hA [16, 17, 18] [0, 1, 2, 3, 4, 5, 6, 7, 8, 9, 10, 11, 12, 13, 14, 15, 19] [0, 1, 2, 3, 4, 5, 6, 7, 8, 9, 10, 11, 12, 13, 14, 15, 17, 18, 19, 16] rfl rfl rfl rfl rfl (by decide) rfl rfl rfl 0 rfl rfl rfl (Nat.le_of_ble_eq_true rfl) dX5_isOwn_6 ⟨Nat.zero_le _, Nat.zero_le _⟩ rfl (fun H locs hP hD hS => ?_)
  refine lv_istore_n (lv' := [(3, .int o6), (0, .ref (ad 0)), (1, .int x1), (2, .int x2)]) hx hb dX5_isOwn_9 rfl hl (by decide) rfl (fun ls hl => ?_)
  refine lv_iload_n hx hb dX5_isOwn_10 rfl (lv_at hl 0 rfl) ?_
  refine lv_iconst (v := (-1 : Int32)) hx hb dX5_isOwn_11 (by decide) ?_
  refine lv_icmp_eq (tgt := 45) hx hb dX5_isOwn_12 (by decide) (fun c12 => ?_) (fun c12 => ?_)
  · replace h := az_pos c12 h
    refine lv_iconst (v := (0 : Int32)) hx hb dX5_isOwn_45 (by decide) ?_
    have hP : va_P g.1 az_cl (az_cV g ad V) _ := hP
    have hD : va_D A (az_cV g ad V) := hD
    rw [← Option.some.inj h]
    exact az_zret hx hb hr hlocks rfl hK hP hD hS dX5_isOwn_46
  · replace h := az_neg c12 h
    refine lv_aload_n hx hb dX5_isOwn_15 rfl (lv_at hl 1 rfl) ?_
    refine va_get (D := g.1) (ci := 5) (v := .ref (ad 6)) (C := RX5) (T := TX5) (N := 11) hx hb hts inX5_isOwn_RX5 hown hK hP 0 rfl rfl 1 (Nat.le_of_ble_eq_true rfl) (hts _ (List.mem_of_getElem? (i := 2) rfl)) (fun _ h9 => h9) rfl dX5_isOwn_16 ?_
    refine va_get (D := g.1) (ci := 0) (v := .ref (ad 7)) (C := RX0) (T := TX0) (N := 6) hx hb hts inX5_isOwn_RX0 hown hK hP 6 rfl rfl 0 (Nat.le_of_ble_eq_true rfl) (hts _ (List.mem_of_getElem? (i := 3) rfl)) (fun _ h9 => h9) rfl dX5_isOwn_19 ?_
    refine lv_iload_n hx hb dX5_isOwn_22 rfl (lv_at hl 0 rfl) ?_
    obtain ⟨i23, h⟩ := az_ite h
    refine va_iald (D := g.1) (f := (V 5)) hx hb hK hP 7 0 rfl rfl (az_vin i23) dX5_isOwn_23 ?_
    refine lv_iconst (v := (2 : Int32)) hx hb dX5_isOwn_24 (by decide) ?_
    refine lv_icmp_ne (tgt := 45) hx hb dX5_isOwn_25 (by decide) (fun c25 => ?_) (fun c25 => ?_)
    · replace h := az_neg c25 h
      refine lv_iconst (v := (0 : Int32)) hx hb dX5_isOwn_45 (by decide) ?_
      have hP : va_P g.1 az_cl (az_cV g ad V) _ := hP
      have hD : va_D A (az_cV g ad V) := hD
      rw [← Option.some.inj h]
      exact az_zret hx hb hr hlocks rfl hK hP hD hS dX5_isOwn_46
    · replace h := az_pos c25 h
      refine lv_aload_n hx hb dX5_isOwn_28 rfl (lv_at hl 1 rfl) ?_
      refine va_get (D := g.1) (ci := 5) (v := .ref (ad 16)) (C := RX5) (T := TX5) (N := 11) hx hb hts inX5_isOwn_RX5 hown hK hP 0 rfl rfl 3 (Nat.le_of_ble_eq_true rfl) (hts _ (List.mem_of_getElem? (i := 1) rfl)) (fun _ h9 => h9) rfl dX5_isOwn_29 ?_
      refine lv_iload_n hx hb dX5_isOwn_32 rfl (lv_at hl 3 rfl) ?_
      refine lv_iload_n hx hb dX5_isOwn_33 rfl (lv_at hl 0 rfl) ?_
      obtain ⟨o34, hc34, h⟩ := az_bnd h
      refine az_callVi (w2 := az_cV g ad V) (As := [.int x2, .int o6]) (rest := []) ⟨hx, hb, hml, hown, hts⟩ hl.1 (kX4_havers l g ad V x2 o6 o34 hc34) (cwV 2 hts gX5_isOwn_X4_havers rfl rfl rfl (by decide +kernel) ⟨Nat.le_of_ble_eq_true rfl, Nat.le_of_ble_eq_true rfl⟩) rfl hK hP hD hS hA [16, 17, 18] [0, 1, 2, 3, 4, 5, 6, 7, 8, 9, 10, 11, 12, 13, 14, 15, 19] [0, 1, 2, 3, 4, 5, 6, 7, 8, 9, 10, 11, 12, 13, 14, 15, 17, 18, 19, 16] rfl rfl rfl rfl rfl (by decide) rfl rfl rfl 0 rfl rfl rfl (Nat.le_of_ble_eq_true rfl) dX5_isOwn_34 ⟨Nat.zero_le _, Nat.zero_le _⟩ rfl (fun H locs hP hD hS => ?_)
      refine lv_iconst (v := (1 : Int32)) hx hb dX5_isOwn_37 (by decide) ?_
      refine lv_icmp_ne (tgt := 45) hx hb dX5_isOwn_38 (by decide) (fun c38 => ?_) (fun c38 => ?_)
      · replace h := az_neg c38 h
        refine lv_iconst (v := (0 : Int32)) hx hb dX5_isOwn_45 (by decide) ?_
        have hP : va_P g.1 az_cl (az_cV g ad V) _ := hP
        have hD : va_D A (az_cV g ad V) := hD
        rw [← Option.some.inj h]
        exact az_zret hx hb hr hlocks rfl hK hP hD hS dX5_isOwn_46
      · replace h := az_pos c38 h
        refine lv_iconst (v := (1 : Int32)) hx hb dX5_isOwn_41 (by decide) ?_
        refine lv_goto (tgt := 46) hx hb dX5_isOwn_42 (by decide) ?_
        have hP : va_P g.1 az_cl (az_cV g ad V) _ := hP
        have hD : va_D A (az_cV g ad V) := hD
        rw [← Option.some.inj h]
        exact az_zret hx hb hr hlocks rfl hK hP hD hS dX5_isOwn_46

def FX5_forgetSnapshot_L4 : Nat → az_St → Int32 → (Nat → Int32) → (Nat → Int32) → (Nat → Int32) → (Nat → Int32) → Int32 → Int32 → Option (Int32 × (Nat → Int32) × (Nat → Int32) × (Nat → Int32) × (Nat → Int32))
  | 0, _, _, _, _, _, _, _, _ => none
  | n + 1, V, x1, wV5, wV9, wV13, wV14, y2, y3 => if (24 : Int32) ≤ y3 then ((FX4_forget (va_up (va_up (va_up (va_up V 5 wV5) 9 wV9) 13 wV13) 14 wV14) x1).bind (fun o53 => some (y2, wV5, wV9, o53.1, o53.2))) else ((FX5_isOwn (va_up (va_up (va_up (va_up V 5 wV5) 9 wV9) 13 wV13) 14 wV14) x1 y3).bind (fun o13 => if o13 = (0 : Int32) then (FX5_forgetSnapshot_L4 n V x1 wV5 wV9 wV13 wV14 y2 (y3 + (1 : Int32))) else ((FX4_blockOf (va_up (va_up (va_up (va_up V 5 wV5) 9 wV9) 13 wV13) 14 wV14) x1 y3).bind (fun o29 => (FX0_beginToWait (va_up (va_up (va_up (va_up V 5 wV5) 9 wV9) 13 wV13) 14 wV14) o29 ((V 16) 1)).bind (fun o36 => FX5_forgetSnapshot_L4 n V x1 o36.1 o36.2 wV13 wV14 (y2 + (1 : Int32)) (y3 + (1 : Int32)))))))
theorem FX5_forgetSnapshot_L4_s (n : Nat) (V : az_St) (x1 : Int32) (wV5 : Nat → Int32) (wV9 : Nat → Int32) (wV13 : Nat → Int32) (wV14 : Nat → Int32) (y2 : Int32) (y3 : Int32) : FX5_forgetSnapshot_L4 (n + 1) V x1 wV5 wV9 wV13 wV14 y2 y3 = (if (24 : Int32) ≤ y3 then ((FX4_forget (va_up (va_up (va_up (va_up V 5 wV5) 9 wV9) 13 wV13) 14 wV14) x1).bind (fun o53 => some (y2, wV5, wV9, o53.1, o53.2))) else ((FX5_isOwn (va_up (va_up (va_up (va_up V 5 wV5) 9 wV9) 13 wV13) 14 wV14) x1 y3).bind (fun o13 => if o13 = (0 : Int32) then (FX5_forgetSnapshot_L4 n V x1 wV5 wV9 wV13 wV14 y2 (y3 + (1 : Int32))) else ((FX4_blockOf (va_up (va_up (va_up (va_up V 5 wV5) 9 wV9) 13 wV13) 14 wV14) x1 y3).bind (fun o29 => (FX0_beginToWait (va_up (va_up (va_up (va_up V 5 wV5) 9 wV9) 13 wV13) 14 wV14) o29 ((V 16) 1)).bind (fun o36 => FX5_forgetSnapshot_L4 n V x1 o36.1 o36.2 wV13 wV14 (y2 + (1 : Int32)) (y3 + (1 : Int32)))))))) := rfl
def FX5_forgetSnapshot (V : az_St) (x1 : Int32) : Option (Int32 × (Nat → Int32) × (Nat → Int32) × (Nat → Int32) × (Nat → Int32)) := FX5_forgetSnapshot_L4 az_fuel V x1 (V 5) (V 9) (V 13) (V 14) (0 : Int32) (0 : Int32)
theorem inX5_forgetSnapshot_RX5 : ∀ w ∈ wsX50, w ∈ wsX5_forgetSnapshot := az_inr [37, 38, 39, 40, 41, 42, 43, 44, 45, 46, 47] (by decide +kernel)
set_option maxHeartbeats 4000000 in
set_option maxRecDepth 100000 in
theorem kX5_forgetSnapshot (l : Launch) (g : az_G) (ad : Nat → Nat) (V : az_St) (x1 : Int32) (o : Int32 × (Nat → Int32) × (Nat → Int32) × (Nat → Int32) × (Nat → Int32)) (h : FX5_forgetSnapshot V x1 = some o) : az_I l yX5_forgetSnapshot wsX5_forgetSnapshot ({ frames := 4, cells := 0, slots := 0, locals := 92 } : Room) [.ref (ad 0), .int x1] g (az_cV g ad V) o.1 (az_cV g ad (va_up (va_up (va_up (va_up V 5 o.2.1) 9 o.2.2.1) 13 o.2.2.2.1) 14 o.2.2.2.2)) := by
  refine az_body (cc := cX5_forgetSnapshot) (maxL := 4) (ret := (some .int)) (Qc := fun A => az_QI g (az_cV g ad (va_up (va_up (va_up (va_up V 5 o.2.1) 9 o.2.2.1) 13 o.2.2.2.1) 14 o.2.2.2.2)) o.1 A) (by decide +kernel) rfl (Nat.le_of_ble_eq_true rfl) ?_
  intro p e s m args below meth c A hx hb hr hts hown hml hlocks hA hK hP hD hS ls hl
  have hl : lv_has ls 4 [(0, .ref (ad 0)), (1, .int x1)] := hl
  unfold FX5_forgetSnapshot at h
  have hL4 : ∀ (n : Nat) (wV5 : Nat → Int32) (wV9 : Nat → Int32) (wV13 : Nat → Int32) (wV14 : Nat → Int32) (y2 : Int32) (y3 : Int32) (H : Heap) (locs : List Loc) (ls : Array Slot), FX5_forgetSnapshot_L4 n V x1 wV5 wV9 wV13 wV14 y2 y3 = some o → va_P g.1 az_cl (az_cV g ad (va_up (va_up (va_up (va_up V 5 wV5) 9 wV9) 13 wV13) 14 wV14)) H → va_D A (az_cV g ad (va_up (va_up (va_up (va_up V 5 wV5) 9 wV9) 13 wV13) 14 wV14)) → va_S A s.heap H locs → lv_has ls 4 [(0, .ref (ad 0)), (1, .int x1), (2, .int y2), (3, .int y3)] → W p l e ({ frames := 4, cells := 0, slots := 0, locals := 92 } : Room) s m args below meth c H locs 0 0 (MQ below (az_QI g (az_cV g ad (va_up (va_up (va_up (va_up V 5 o.2.1) 9 o.2.2.1) 13 o.2.2.2.1) 14 o.2.2.2.2)) o.1 A) args s 0 0 A) (F0 m 4 ls []) := by
    intro n
    induction n with
    | zero => intro wV5 wV9 wV13 wV14 y2 y3 H locs ls h; exact az_non h
    | succ n ih =>
      intro wV5 wV9 wV13 wV14 y2 y3 H locs ls h hP hD hS hl
      rw [FX5_forgetSnapshot_L4_s] at h
      refine lv_iload_n hx hb dX5_forgetSnapshot_4 rfl (lv_at hl 3 rfl) ?_
      refine lv_bipush (v := (24 : Int32)) hx hb dX5_forgetSnapshot_5 (by decide) ?_
      refine lv_icmp_ge (tgt := 48) hx hb dX5_forgetSnapshot_7 (by decide) (fun c7 => ?_) (fun c7 => ?_)
      · replace h := az_pos c7 h
        refine lv_aload_n hx hb dX5_forgetSnapshot_48 rfl (lv_at hl 0 rfl) ?_
        refine va_get (D := g.1) (ci := 5) (v := .ref (ad 16)) (C := RX5) (T := TX5) (N := 11) hx hb hts inX5_forgetSnapshot_RX5 hown hK hP 0 rfl rfl 3 (Nat.le_of_ble_eq_true rfl) (hts _ (List.mem_of_getElem? (i := 2) rfl)) (fun _ h9 => h9) rfl dX5_forgetSnapshot_49 ?_
        refine lv_iload_n hx hb dX5_forgetSnapshot_52 rfl (lv_at hl 1 rfl) ?_
        obtain ⟨o53, hc53, h⟩ := az_bnd h
        refine az_callVv (w2 := az_cV g ad (va_up (va_up (va_up (va_up V 5 wV5) 9 wV9) 13 o53.1) 14 o53.2)) (As := [.int x1]) (rest := []) ⟨hx, hb, hml, hown, hts⟩ hl.1 (kX4_forget l g ad (va_up (va_up (va_up (va_up V 5 wV5) 9 wV9) 13 wV13) 14 wV14) x1 o53 hc53) (cwV 1 hts gX5_forgetSnapshot_X4_forget rfl rfl rfl (by decide +kernel) ⟨Nat.le_of_ble_eq_true rfl, Nat.le_of_ble_eq_true rfl⟩) rfl hK hP hD hS hA [16, 17, 18] [0, 1, 2, 3, 4, 5, 6, 7, 8, 9, 10, 11, 12, 13, 14, 15, 19] [0, 1, 2, 3, 4, 5, 6, 7, 8, 9, 10, 11, 12, 13, 14, 15, 17, 18, 19, 16] rfl rfl rfl rfl rfl (by decide) rfl rfl rfl 0 rfl rfl rfl (Nat.le_of_ble_eq_true rfl) dX5_forgetSnapshot_53 ⟨Nat.zero_le _, Nat.zero_le _⟩ rfl (fun H locs hP hD hS => ?_)
        refine lv_iload_n hx hb dX5_forgetSnapshot_56 rfl (lv_at hl 2 rfl) ?_
        have hP : va_P g.1 az_cl (az_cV g ad (va_up (va_up (va_up (va_up V 5 wV5) 9 wV9) 13 o53.1) 14 o53.2)) _ := hP
        have hD : va_D A (az_cV g ad (va_up (va_up (va_up (va_up V 5 wV5) 9 wV9) 13 o53.1) 14 o53.2)) := hD
        rw [← Option.some.inj h]
        exact az_iret hx hb hr hlocks hK hP hD hS dX5_forgetSnapshot_57
      · replace h := az_neg c7 h
        refine lv_aload_n hx hb dX5_forgetSnapshot_10 rfl (lv_at hl 0 rfl) ?_
        refine lv_iload_n hx hb dX5_forgetSnapshot_11 rfl (lv_at hl 1 rfl) ?_
        refine lv_iload_n hx hb dX5_forgetSnapshot_12 rfl (lv_at hl 3 rfl) ?_
        obtain ⟨o13, hc13, h⟩ := az_bnd h
        refine az_callVi (w2 := az_cV g ad (va_up (va_up (va_up (va_up V 5 wV5) 9 wV9) 13 wV13) 14 wV14)) (As := [.int x1, .int y3]) (rest := []) ⟨hx, hb, hml, hown, hts⟩ hl.1 (kX5_isOwn l g ad (va_up (va_up (va_up (va_up V 5 wV5) 9 wV9) 13 wV13) 14 wV14) x1 y3 o13 hc13) (cwV 2 hts gX5_forgetSnapshot_X5_isOwn rfl rfl rfl (by decide +kernel) ⟨Nat.le_of_ble_eq_true rfl, Nat.le_of_ble_eq_true rfl⟩) rfl hK hP hD hS hA [0, 1, 2, 3, 4, 5, 6, 7, 8, 9, 10, 11, 12, 13, 14, 15, 16, 17, 18, 19] [] [0, 1, 2, 3, 4, 5, 6, 7, 8, 9, 10, 11, 12, 13, 14, 15, 16, 17, 18, 19] rfl rfl rfl rfl rfl (by decide) rfl rfl rfl 0 rfl rfl rfl (Nat.le_of_ble_eq_true rfl) dX5_forgetSnapshot_13 ⟨Nat.zero_le _, Nat.zero_le _⟩ rfl (fun H locs hP hD hS => ?_)
        refine lv_if_eq (tgt := 42) hx hb dX5_forgetSnapshot_16 (by decide) (fun c16 => ?_) (fun c16 => ?_)
        · replace h := az_pos c16 h
          refine lv_iinc (v := y3 + (1 : Int32)) (lv' := [(3, .int (y3 + (1 : Int32))), (0, .ref (ad 0)), (1, .int x1), (2, .int y2)]) hx hb dX5_forgetSnapshot_42 hl (k := 3) rfl (rfl) (by decide) rfl (fun ls hl => ?_)
          refine lv_goto (tgt := 4) hx hb dX5_forgetSnapshot_45 (by decide) ?_
          have hP : va_P g.1 az_cl (az_cV g ad (va_up (va_up (va_up (va_up V 5 wV5) 9 wV9) 13 wV13) 14 wV14)) _ := hP
          have hD : va_D A (az_cV g ad (va_up (va_up (va_up (va_up V 5 wV5) 9 wV9) 13 wV13) 14 wV14)) := hD
          exact ih wV5 wV9 wV13 wV14 y2 (y3 + (1 : Int32)) _ _ ls h hP hD hS (lv_sub hl [1, 2, 3, 0] rfl)
        · replace h := az_neg c16 h
          refine lv_aload_n hx hb dX5_forgetSnapshot_19 rfl (lv_at hl 0 rfl) ?_
          refine va_get (D := g.1) (ci := 5) (v := .ref (ad 6)) (C := RX5) (T := TX5) (N := 11) hx hb hts inX5_forgetSnapshot_RX5 hown hK hP 0 rfl rfl 1 (Nat.le_of_ble_eq_true rfl) (hts _ (List.mem_of_getElem? (i := 1) rfl)) (fun _ h9 => h9) rfl dX5_forgetSnapshot_20 ?_
          refine lv_aload_n hx hb dX5_forgetSnapshot_23 rfl (lv_at hl 0 rfl) ?_
          refine va_get (D := g.1) (ci := 5) (v := .ref (ad 16)) (C := RX5) (T := TX5) (N := 11) hx hb hts inX5_forgetSnapshot_RX5 hown hK hP 0 rfl rfl 3 (Nat.le_of_ble_eq_true rfl) (hts _ (List.mem_of_getElem? (i := 2) rfl)) (fun _ h9 => h9) rfl dX5_forgetSnapshot_24 ?_
          refine lv_iload_n hx hb dX5_forgetSnapshot_27 rfl (lv_at hl 1 rfl) ?_
          refine lv_iload_n hx hb dX5_forgetSnapshot_28 rfl (lv_at hl 3 rfl) ?_
          obtain ⟨o29, hc29, h⟩ := az_bnd h
          refine az_callVi (w2 := az_cV g ad (va_up (va_up (va_up (va_up V 5 wV5) 9 wV9) 13 wV13) 14 wV14)) (As := [.int x1, .int y3]) (rest := [.ref (ad 6)]) ⟨hx, hb, hml, hown, hts⟩ hl.1 (kX4_blockOf l g ad (va_up (va_up (va_up (va_up V 5 wV5) 9 wV9) 13 wV13) 14 wV14) x1 y3 o29 hc29) (cwV 2 hts gX5_forgetSnapshot_X4_blockOf rfl rfl rfl (by decide +kernel) ⟨Nat.le_of_ble_eq_true rfl, Nat.le_of_ble_eq_true rfl⟩) rfl hK hP hD hS hA [16, 17, 18] [0, 1, 2, 3, 4, 5, 6, 7, 8, 9, 10, 11, 12, 13, 14, 15, 19] [0, 1, 2, 3, 4, 5, 6, 7, 8, 9, 10, 11, 12, 13, 14, 15, 17, 18, 19, 16] rfl rfl rfl rfl rfl (by decide) rfl rfl rfl 0 rfl rfl rfl (Nat.le_of_ble_eq_true rfl) dX5_forgetSnapshot_29 ⟨Nat.zero_le _, Nat.zero_le _⟩ rfl (fun H locs hP hD hS => ?_)
          refine lv_aload_n hx hb dX5_forgetSnapshot_32 rfl (lv_at hl 0 rfl) ?_
          refine va_get (D := g.1) (ci := 5) (v := .int ((V 16) 1)) (C := RX5) (T := TX5) (N := 11) hx hb hts inX5_forgetSnapshot_RX5 hown hK hP 0 rfl rfl 6 (Nat.le_of_ble_eq_true rfl) (hts _ (List.mem_of_getElem? (i := 3) rfl)) (fun _ h9 => h9) rfl dX5_forgetSnapshot_33 ?_
          obtain ⟨o36, hc36, h⟩ := az_bnd h
          refine az_callVv (w2 := az_cV g ad (va_up (va_up (va_up (va_up V 5 o36.1) 9 o36.2) 13 wV13) 14 wV14)) (As := [.int o29, .int ((V 16) 1)]) (rest := []) ⟨hx, hb, hml, hown, hts⟩ hl.1 (kX0_beginToWait l g ad (va_up (va_up (va_up (va_up V 5 wV5) 9 wV9) 13 wV13) 14 wV14) o29 ((V 16) 1) o36 hc36) (cwV 2 hts gX5_forgetSnapshot_X0_beginToWait rfl rfl rfl (by decide +kernel) ⟨Nat.le_of_ble_eq_true rfl, Nat.le_of_ble_eq_true rfl⟩) rfl hK hP hD hS hA [6, 7, 8, 9, 10, 11, 12] [0, 1, 2, 3, 4, 5, 13, 14, 15, 16, 17, 18, 19] [0, 1, 2, 3, 4, 5, 13, 14, 15, 16, 17, 18, 19, 6, 7, 8, 9, 10, 11, 12] rfl rfl rfl rfl rfl (by decide) rfl rfl rfl 0 rfl rfl rfl (Nat.le_of_ble_eq_true rfl) dX5_forgetSnapshot_36 ⟨Nat.zero_le _, Nat.zero_le _⟩ rfl (fun H locs hP hD hS => ?_)
          refine lv_iinc (v := y2 + (1 : Int32)) (lv' := [(2, .int (y2 + (1 : Int32))), (0, .ref (ad 0)), (1, .int x1), (3, .int y3)]) hx hb dX5_forgetSnapshot_39 hl (k := 2) rfl (rfl) (by decide) rfl (fun ls hl => ?_)
          refine lv_iinc (v := y3 + (1 : Int32)) (lv' := [(3, .int (y3 + (1 : Int32))), (2, .int (y2 + (1 : Int32))), (0, .ref (ad 0)), (1, .int x1)]) hx hb dX5_forgetSnapshot_42 hl (k := 3) rfl (rfl) (by decide) rfl (fun ls hl => ?_)
          refine lv_goto (tgt := 4) hx hb dX5_forgetSnapshot_45 (by decide) ?_
          have hP : va_P g.1 az_cl (az_cV g ad (va_up (va_up (va_up (va_up V 5 o36.1) 9 o36.2) 13 wV13) 14 wV14)) _ := hP
          have hD : va_D A (az_cV g ad (va_up (va_up (va_up (va_up V 5 o36.1) 9 o36.2) 13 wV13) 14 wV14)) := hD
          exact ih o36.1 o36.2 wV13 wV14 (y2 + (1 : Int32)) (y3 + (1 : Int32)) _ _ ls h hP hD hS (lv_sub hl [2, 3, 1, 0] rfl)
  refine lv_iconst (v := (0 : Int32)) hx hb dX5_forgetSnapshot_0 (by decide) ?_
  refine lv_istore_n (lv' := [(2, .int (0 : Int32)), (0, .ref (ad 0)), (1, .int x1)]) hx hb dX5_forgetSnapshot_1 rfl hl (by decide) rfl (fun ls hl => ?_)
  refine lv_iconst (v := (0 : Int32)) hx hb dX5_forgetSnapshot_2 (by decide) ?_
  refine lv_istore_n (lv' := [(3, .int (0 : Int32)), (2, .int (0 : Int32)), (0, .ref (ad 0)), (1, .int x1)]) hx hb dX5_forgetSnapshot_3 rfl hl (by decide) rfl (fun ls hl => ?_)
  have hP : va_P g.1 az_cl (az_cV g ad (va_up (va_up (va_up (va_up V 5 (V 5)) 9 (V 9)) 13 (V 13)) 14 (V 14))) _ := hP
  have hD : va_D A (az_cV g ad (va_up (va_up (va_up (va_up V 5 (V 5)) 9 (V 9)) 13 (V 13)) 14 (V 14))) := hD
  exact hL4 az_fuel (V 5) (V 9) (V 13) (V 14) (0 : Int32) (0 : Int32) _ _ ls h hP hD hS (lv_sub hl [2, 3, 1, 0] rfl)

def FX5_returnTo_L4 : Nat → az_St → Int32 → (Nat → Int32) → (Nat → Int32) → (Nat → Int32) → Int32 → Int32 → Option (Int32 × (Nat → Int32) × (Nat → Int32) × (Nat → Int32))
  | 0, _, _, _, _, _, _, _ => none
  | n + 1, V, x1, wV5, wV9, wV15, y2, y3 => if (24 : Int32) ≤ y3 then (some (y2, wV5, wV9, wV15)) else ((FX4_blockOf (va_up (va_up (va_up V 5 wV5) 9 wV9) 15 wV15) x1 y3).bind (fun o16 => if az_in y3 24 = true then if o16 = wV15 y3.toNatClampNeg then (FX5_returnTo_L4 n V x1 wV5 wV9 wV15 y2 (y3 + (1 : Int32))) else ((FX5_dropLive (va_up (va_up (va_up V 5 wV5) 9 wV9) 15 wV15) y3).bind (fun o34 => if o16 = (-1 : Int32) then (FX5_returnTo_L4 n V x1 o34.2.1 o34.2.2.1 (upd o34.2.2.2 y3.toNatClampNeg o16) (y2 + (1 : Int32)) (y3 + (1 : Int32))) else (if az_in o16 160 = true then FX5_returnTo_L4 n V x1 (upd o34.2.1 o16.toNatClampNeg (1 : Int32)) o34.2.2.1 (upd o34.2.2.2 y3.toNatClampNeg o16) (y2 + (1 : Int32)) (y3 + (1 : Int32)) else none))) else none))
theorem FX5_returnTo_L4_s (n : Nat) (V : az_St) (x1 : Int32) (wV5 : Nat → Int32) (wV9 : Nat → Int32) (wV15 : Nat → Int32) (y2 : Int32) (y3 : Int32) : FX5_returnTo_L4 (n + 1) V x1 wV5 wV9 wV15 y2 y3 = (if (24 : Int32) ≤ y3 then (some (y2, wV5, wV9, wV15)) else ((FX4_blockOf (va_up (va_up (va_up V 5 wV5) 9 wV9) 15 wV15) x1 y3).bind (fun o16 => if az_in y3 24 = true then if o16 = wV15 y3.toNatClampNeg then (FX5_returnTo_L4 n V x1 wV5 wV9 wV15 y2 (y3 + (1 : Int32))) else ((FX5_dropLive (va_up (va_up (va_up V 5 wV5) 9 wV9) 15 wV15) y3).bind (fun o34 => if o16 = (-1 : Int32) then (FX5_returnTo_L4 n V x1 o34.2.1 o34.2.2.1 (upd o34.2.2.2 y3.toNatClampNeg o16) (y2 + (1 : Int32)) (y3 + (1 : Int32))) else (if az_in o16 160 = true then FX5_returnTo_L4 n V x1 (upd o34.2.1 o16.toNatClampNeg (1 : Int32)) o34.2.2.1 (upd o34.2.2.2 y3.toNatClampNeg o16) (y2 + (1 : Int32)) (y3 + (1 : Int32)) else none))) else none))) := rfl
def FX5_returnTo (V : az_St) (x1 : Int32) : Option (Int32 × (Nat → Int32) × (Nat → Int32) × (Nat → Int32)) := FX5_returnTo_L4 az_fuel V x1 (V 5) (V 9) (V 15) (0 : Int32) (0 : Int32)
theorem inX5_returnTo_RX0 : ∀ w ∈ wsX00, w ∈ wsX5_returnTo := az_inr [48, 49, 50, 51, 52, 53] (by decide +kernel)
theorem inX5_returnTo_RX5 : ∀ w ∈ wsX50, w ∈ wsX5_returnTo := az_inr [37, 38, 39, 40, 41, 42, 43, 44, 45, 46, 47] (by decide +kernel)
set_option maxHeartbeats 4000000 in
set_option maxRecDepth 100000 in
theorem kX5_returnTo (l : Launch) (g : az_G) (ad : Nat → Nat) (V : az_St) (x1 : Int32) (o : Int32 × (Nat → Int32) × (Nat → Int32) × (Nat → Int32)) (h : FX5_returnTo V x1 = some o) : az_I l yX5_returnTo wsX5_returnTo ({ frames := 5, cells := 0, slots := 0, locals := 113 } : Room) [.ref (ad 0), .int x1] g (az_cV g ad V) o.1 (az_cV g ad (va_up (va_up (va_up V 5 o.2.1) 9 o.2.2.1) 15 o.2.2.2)) := by
  refine az_body (cc := cX5_returnTo) (maxL := 5) (ret := (some .int)) (Qc := fun A => az_QI g (az_cV g ad (va_up (va_up (va_up V 5 o.2.1) 9 o.2.2.1) 15 o.2.2.2)) o.1 A) (by decide +kernel) rfl (Nat.le_of_ble_eq_true rfl) ?_
  intro p e s m args below meth c A hx hb hr hts hown hml hlocks hA hK hP hD hS ls hl
  have hl : lv_has ls 5 [(0, .ref (ad 0)), (1, .int x1)] := hl
  unfold FX5_returnTo at h
  have hL4 : ∀ (n : Nat) (wV5 : Nat → Int32) (wV9 : Nat → Int32) (wV15 : Nat → Int32) (y2 : Int32) (y3 : Int32) (H : Heap) (locs : List Loc) (ls : Array Slot), FX5_returnTo_L4 n V x1 wV5 wV9 wV15 y2 y3 = some o → va_P g.1 az_cl (az_cV g ad (va_up (va_up (va_up V 5 wV5) 9 wV9) 15 wV15)) H → va_D A (az_cV g ad (va_up (va_up (va_up V 5 wV5) 9 wV9) 15 wV15)) → va_S A s.heap H locs → lv_has ls 5 [(0, .ref (ad 0)), (1, .int x1), (2, .int y2), (3, .int y3)] → W p l e ({ frames := 5, cells := 0, slots := 0, locals := 113 } : Room) s m args below meth c H locs 0 0 (MQ below (az_QI g (az_cV g ad (va_up (va_up (va_up V 5 o.2.1) 9 o.2.2.1) 15 o.2.2.2)) o.1 A) args s 0 0 A) (F0 m 4 ls []) := by
    intro n
    induction n with
    | zero => intro wV5 wV9 wV15 y2 y3 H locs ls h; exact az_non h
    | succ n ih =>
      intro wV5 wV9 wV15 y2 y3 H locs ls h hP hD hS hl
      rw [FX5_returnTo_L4_s] at h
      refine lv_iload_n hx hb dX5_returnTo_4 rfl (lv_at hl 3 rfl) ?_
      refine lv_bipush (v := (24 : Int32)) hx hb dX5_returnTo_5 (by decide) ?_
      refine lv_icmp_ge (tgt := 72) hx hb dX5_returnTo_7 (by decide) (fun c7 => ?_) (fun c7 => ?_)
      · replace h := az_pos c7 h
        refine lv_iload_n hx hb dX5_returnTo_72 rfl (lv_at hl 2 rfl) ?_
        have hP : va_P g.1 az_cl (az_cV g ad (va_up (va_up (va_up V 5 wV5) 9 wV9) 15 wV15)) _ := hP
        have hD : va_D A (az_cV g ad (va_up (va_up (va_up V 5 wV5) 9 wV9) 15 wV15)) := hD
        rw [← Option.some.inj h]
        exact az_iret hx hb hr hlocks hK hP hD hS dX5_returnTo_73
      · replace h := az_neg c7 h
        refine lv_aload_n hx hb dX5_returnTo_10 rfl (lv_at hl 0 rfl) ?_
        refine va_get (D := g.1) (ci := 5) (v := .ref (ad 16)) (C := RX5) (T := TX5) (N := 11) hx hb hts inX5_returnTo_RX5 hown hK hP 0 rfl rfl 3 (Nat.le_of_ble_eq_true rfl) (hts _ (List.mem_of_getElem? (i := 1) rfl)) (fun _ h9 => h9) rfl dX5_returnTo_11 ?_
        refine lv_iload_n hx hb dX5_returnTo_14 rfl (lv_at hl 1 rfl) ?_
        refine lv_iload_n hx hb dX5_returnTo_15 rfl (lv_at hl 3 rfl) ?_
        obtain ⟨o16, hc16, h⟩ := az_bnd h
        refine az_callVi (w2 := az_cV g ad (va_up (va_up (va_up V 5 wV5) 9 wV9) 15 wV15)) (As := [.int x1, .int y3]) (rest := []) ⟨hx, hb, hml, hown, hts⟩ hl.1 (kX4_blockOf l g ad (va_up (va_up (va_up V 5 wV5) 9 wV9) 15 wV15) x1 y3 o16 hc16) (cwV 2 hts gX5_returnTo_X4_blockOf rfl rfl rfl (by decide +kernel) ⟨Nat.le_of_ble_eq_true rfl, Nat.le_of_ble_eq_true rfl⟩) rfl hK hP hD hS hA [16, 17, 18] [0, 1, 2, 3, 4, 5, 6, 7, 8, 9, 10, 11, 12, 13, 14, 15, 19] [0, 1, 2, 3, 4, 5, 6, 7, 8, 9, 10, 11, 12, 13, 14, 15, 17, 18, 19, 16] rfl rfl rfl rfl rfl (by decide) rfl rfl rfl 0 rfl rfl rfl (Nat.le_of_ble_eq_true rfl) dX5_returnTo_16 ⟨Nat.zero_le _, Nat.zero_le _⟩ rfl (fun H locs hP hD hS => ?_)
        refine lv_istore (lv' := [(4, .int o16), (0, .ref (ad 0)), (1, .int x1), (2, .int y2), (3, .int y3)]) hx hb dX5_returnTo_19 hl (by decide) rfl (fun ls hl => ?_)
        refine lv_iload hx hb dX5_returnTo_21 (lv_at hl 0 rfl) ?_
        refine lv_aload_n hx hb dX5_returnTo_23 rfl (lv_at hl 1 rfl) ?_
        refine va_get (D := g.1) (ci := 5) (v := .ref (ad 19)) (C := RX5) (T := TX5) (N := 11) hx hb hts inX5_returnTo_RX5 hown hK hP 0 rfl rfl 4 (Nat.le_of_ble_eq_true rfl) (hts _ (List.mem_of_getElem? (i := 2) rfl)) (fun _ h9 => h9) rfl dX5_returnTo_24 ?_
        refine lv_iload_n hx hb dX5_returnTo_27 rfl (lv_at hl 4 rfl) ?_
        obtain ⟨i28, h⟩ := az_ite h
        refine va_iald (D := g.1) (f := wV15) hx hb hK hP 19 0 rfl rfl (az_vin i28) dX5_returnTo_28 ?_
        refine lv_icmp_eq (tgt := 66) hx hb dX5_returnTo_29 (by decide) (fun c29 => ?_) (fun c29 => ?_)
        · replace h := az_pos c29 h
          refine lv_iinc (v := y3 + (1 : Int32)) (lv' := [(3, .int (y3 + (1 : Int32))), (4, .int o16), (0, .ref (ad 0)), (1, .int x1), (2, .int y2)]) hx hb dX5_returnTo_66 hl (k := 4) rfl (rfl) (by decide) rfl (fun ls hl => ?_)
          refine lv_goto (tgt := 4) hx hb dX5_returnTo_69 (by decide) ?_
          have hP : va_P g.1 az_cl (az_cV g ad (va_up (va_up (va_up V 5 wV5) 9 wV9) 15 wV15)) _ := hP
          have hD : va_D A (az_cV g ad (va_up (va_up (va_up V 5 wV5) 9 wV9) 15 wV15)) := hD
          exact ih wV5 wV9 wV15 y2 (y3 + (1 : Int32)) _ _ ls h hP hD hS (lv_sub hl [2, 3, 4, 0] rfl)
        · replace h := az_neg c29 h
          refine lv_aload_n hx hb dX5_returnTo_32 rfl (lv_at hl 1 rfl) ?_
          refine lv_iload_n hx hb dX5_returnTo_33 rfl (lv_at hl 4 rfl) ?_
          obtain ⟨o34, hc34, h⟩ := az_bnd h
          refine az_callVi (w2 := az_cV g ad (va_up (va_up (va_up V 5 o34.2.1) 9 o34.2.2.1) 15 o34.2.2.2)) (As := [.int y3]) (rest := []) ⟨hx, hb, hml, hown, hts⟩ hl.1 (kX5_dropLive l g ad (va_up (va_up (va_up V 5 wV5) 9 wV9) 15 wV15) y3 o34 hc34) (cwV 1 hts gX5_returnTo_X5_dropLive rfl rfl rfl (by decide +kernel) ⟨Nat.le_of_ble_eq_true rfl, Nat.le_of_ble_eq_true rfl⟩) rfl hK hP hD hS hA [0, 1, 2, 3, 4, 5, 6, 7, 8, 9, 10, 11, 12, 13, 14, 15, 16, 17, 18, 19] [] [0, 1, 2, 3, 4, 5, 6, 7, 8, 9, 10, 11, 12, 13, 14, 15, 16, 17, 18, 19] rfl rfl rfl rfl rfl (by decide) rfl rfl rfl 0 rfl rfl rfl (Nat.le_of_ble_eq_true rfl) dX5_returnTo_34 ⟨Nat.zero_le _, Nat.zero_le _⟩ rfl (fun H locs hP hD hS => ?_)
          refine lv_pop hx hb dX5_returnTo_37 rfl ?_
          refine lv_aload_n hx hb dX5_returnTo_38 rfl (lv_at hl 1 rfl) ?_
          refine va_get (D := g.1) (ci := 5) (v := .ref (ad 19)) (C := RX5) (T := TX5) (N := 11) hx hb hts inX5_returnTo_RX5 hown hK hP 0 rfl rfl 4 (Nat.le_of_ble_eq_true rfl) (hts _ (List.mem_of_getElem? (i := 2) rfl)) (fun _ h9 => h9) rfl dX5_returnTo_39 ?_
          refine lv_iload_n hx hb dX5_returnTo_42 rfl (lv_at hl 4 rfl) ?_
          refine lv_iload hx hb dX5_returnTo_43 (lv_at hl 0 rfl) ?_
          refine va_iast (D := g.1) (f := o34.2.2.2) hx hb hK hP hD hS 19 0 rfl rfl (az_vin i28) dX5_returnTo_45 (fun H locs hP hD hS => ?_)
          have hP : va_P g.1 az_cl (az_cV g ad (va_up (va_up (va_up V 5 o34.2.1) 9 o34.2.2.1) 15 (upd o34.2.2.2 y3.toNatClampNeg o16))) _ := hP
          have hD : va_D A (az_cV g ad (va_up (va_up (va_up V 5 o34.2.1) 9 o34.2.2.1) 15 (upd o34.2.2.2 y3.toNatClampNeg o16))) := hD
          refine lv_iload hx hb dX5_returnTo_46 (lv_at hl 0 rfl) ?_
          refine lv_iconst (v := (-1 : Int32)) hx hb dX5_returnTo_48 (by decide) ?_
          refine lv_icmp_eq (tgt := 63) hx hb dX5_returnTo_49 (by decide) (fun c49 => ?_) (fun c49 => ?_)
          · replace h := az_pos c49 h
            refine lv_iinc (v := y2 + (1 : Int32)) (lv' := [(2, .int (y2 + (1 : Int32))), (4, .int o16), (0, .ref (ad 0)), (1, .int x1), (3, .int y3)]) hx hb dX5_returnTo_63 hl (k := 3) rfl (rfl) (by decide) rfl (fun ls hl => ?_)
            refine lv_iinc (v := y3 + (1 : Int32)) (lv' := [(3, .int (y3 + (1 : Int32))), (2, .int (y2 + (1 : Int32))), (4, .int o16), (0, .ref (ad 0)), (1, .int x1)]) hx hb dX5_returnTo_66 hl (k := 4) rfl (rfl) (by decide) rfl (fun ls hl => ?_)
            refine lv_goto (tgt := 4) hx hb dX5_returnTo_69 (by decide) ?_
            have hP : va_P g.1 az_cl (az_cV g ad (va_up (va_up (va_up V 5 o34.2.1) 9 o34.2.2.1) 15 (upd o34.2.2.2 y3.toNatClampNeg o16))) _ := hP
            have hD : va_D A (az_cV g ad (va_up (va_up (va_up V 5 o34.2.1) 9 o34.2.2.1) 15 (upd o34.2.2.2 y3.toNatClampNeg o16))) := hD
            exact ih o34.2.1 o34.2.2.1 (upd o34.2.2.2 y3.toNatClampNeg o16) (y2 + (1 : Int32)) (y3 + (1 : Int32)) _ _ ls h hP hD hS (lv_sub hl [3, 4, 1, 0] rfl)
          · replace h := az_neg c49 h
            refine lv_aload_n hx hb dX5_returnTo_52 rfl (lv_at hl 1 rfl) ?_
            refine va_get (D := g.1) (ci := 5) (v := .ref (ad 6)) (C := RX5) (T := TX5) (N := 11) hx hb hts inX5_returnTo_RX5 hown hK hP 0 rfl rfl 1 (Nat.le_of_ble_eq_true rfl) (hts _ (List.mem_of_getElem? (i := 3) rfl)) (fun _ h9 => h9) rfl dX5_returnTo_53 ?_
            refine va_get (D := g.1) (ci := 0) (v := .ref (ad 7)) (C := RX0) (T := TX0) (N := 6) hx hb hts inX5_returnTo_RX0 hown hK hP 6 rfl rfl 0 (Nat.le_of_ble_eq_true rfl) (hts _ (List.mem_of_getElem? (i := 4) rfl)) (fun _ h9 => h9) rfl dX5_returnTo_56 ?_
            refine lv_iload hx hb dX5_returnTo_59 (lv_at hl 0 rfl) ?_
            refine lv_iconst (v := (1 : Int32)) hx hb dX5_returnTo_61 (by decide) ?_
            obtain ⟨i62, h⟩ := az_ite h
            refine va_iast (D := g.1) (f := o34.2.1) hx hb hK hP hD hS 7 0 rfl rfl (az_vin i62) dX5_returnTo_62 (fun H locs hP hD hS => ?_)
            have hP : va_P g.1 az_cl (az_cV g ad (va_up (va_up (va_up V 5 (upd o34.2.1 o16.toNatClampNeg (1 : Int32))) 9 o34.2.2.1) 15 (upd o34.2.2.2 y3.toNatClampNeg o16))) _ := hP
            have hD : va_D A (az_cV g ad (va_up (va_up (va_up V 5 (upd o34.2.1 o16.toNatClampNeg (1 : Int32))) 9 o34.2.2.1) 15 (upd o34.2.2.2 y3.toNatClampNeg o16))) := hD
            refine lv_iinc (v := y2 + (1 : Int32)) (lv' := [(2, .int (y2 + (1 : Int32))), (4, .int o16), (0, .ref (ad 0)), (1, .int x1), (3, .int y3)]) hx hb dX5_returnTo_63 hl (k := 3) rfl (rfl) (by decide) rfl (fun ls hl => ?_)
            refine lv_iinc (v := y3 + (1 : Int32)) (lv' := [(3, .int (y3 + (1 : Int32))), (2, .int (y2 + (1 : Int32))), (4, .int o16), (0, .ref (ad 0)), (1, .int x1)]) hx hb dX5_returnTo_66 hl (k := 4) rfl (rfl) (by decide) rfl (fun ls hl => ?_)
            refine lv_goto (tgt := 4) hx hb dX5_returnTo_69 (by decide) ?_
            have hP : va_P g.1 az_cl (az_cV g ad (va_up (va_up (va_up V 5 (upd o34.2.1 o16.toNatClampNeg (1 : Int32))) 9 o34.2.2.1) 15 (upd o34.2.2.2 y3.toNatClampNeg o16))) _ := hP
            have hD : va_D A (az_cV g ad (va_up (va_up (va_up V 5 (upd o34.2.1 o16.toNatClampNeg (1 : Int32))) 9 o34.2.2.1) 15 (upd o34.2.2.2 y3.toNatClampNeg o16))) := hD
            exact ih (upd o34.2.1 o16.toNatClampNeg (1 : Int32)) o34.2.2.1 (upd o34.2.2.2 y3.toNatClampNeg o16) (y2 + (1 : Int32)) (y3 + (1 : Int32)) _ _ ls h hP hD hS (lv_sub hl [3, 4, 1, 0] rfl)
  refine lv_iconst (v := (0 : Int32)) hx hb dX5_returnTo_0 (by decide) ?_
  refine lv_istore_n (lv' := [(2, .int (0 : Int32)), (0, .ref (ad 0)), (1, .int x1)]) hx hb dX5_returnTo_1 rfl hl (by decide) rfl (fun ls hl => ?_)
  refine lv_iconst (v := (0 : Int32)) hx hb dX5_returnTo_2 (by decide) ?_
  refine lv_istore_n (lv' := [(3, .int (0 : Int32)), (2, .int (0 : Int32)), (0, .ref (ad 0)), (1, .int x1)]) hx hb dX5_returnTo_3 rfl hl (by decide) rfl (fun ls hl => ?_)
  have hP : va_P g.1 az_cl (az_cV g ad (va_up (va_up (va_up V 5 (V 5)) 9 (V 9)) 15 (V 15))) _ := hP
  have hD : va_D A (az_cV g ad (va_up (va_up (va_up V 5 (V 5)) 9 (V 9)) 15 (V 15))) := hD
  exact hL4 az_fuel (V 5) (V 9) (V 15) (0 : Int32) (0 : Int32) _ _ ls h hP hD hS (lv_sub hl [2, 3, 1, 0] rfl)

def FX5_stallOf (V : az_St) (x1 : Int32) : Option (Int32) := (FX2_isStalled V x1 ((V 16) 1)).bind (fun o9 => if o9 = (0 : Int32) then (some ((0 : Int32))) else (some (((V 16) 3) - ((V 16) 2))))
theorem inX5_stallOf_RX5 : ∀ w ∈ wsX50, w ∈ wsX5_stallOf := az_inr [16, 17, 18, 19, 20, 21, 22, 23, 24, 25, 26] (by decide +kernel)
set_option maxHeartbeats 4000000 in
set_option maxRecDepth 100000 in
theorem kX5_stallOf (l : Launch) (g : az_G) (ad : Nat → Nat) (V : az_St) (x1 : Int32) (o : Int32) (h : FX5_stallOf V x1 = some o) : az_I l yX5_stallOf wsX5_stallOf ({ frames := 2, cells := 0, slots := 0, locals := 43 } : Room) [.ref (ad 0), .int x1] g (az_cV g ad V) o (az_cV g ad V) := by
  refine az_body (cc := cX5_stallOf) (maxL := 2) (ret := (some .int)) (Qc := fun A => az_QI g (az_cV g ad V) o A) (by decide +kernel) rfl (Nat.le_of_ble_eq_true rfl) ?_
  intro p e s m args below meth c A hx hb hr hts hown hml hlocks hA hK hP hD hS ls hl
  have hl : lv_has ls 2 [(0, .ref (ad 0)), (1, .int x1)] := hl
  unfold FX5_stallOf at h
  refine lv_aload_n hx hb dX5_stallOf_0 rfl (lv_at hl 0 rfl) ?_
  refine va_get (D := g.1) (ci := 5) (v := .ref (ad 13)) (C := RX5) (T := TX5) (N := 11) hx hb hts inX5_stallOf_RX5 hown hK hP 0 rfl rfl 2 (Nat.le_of_ble_eq_true rfl) (hts _ (List.mem_of_getElem? (i := 1) rfl)) (fun _ h9 => h9) rfl dX5_stallOf_1 ?_
  refine lv_iload_n hx hb dX5_stallOf_4 rfl (lv_at hl 1 rfl) ?_
  refine lv_aload_n hx hb dX5_stallOf_5 rfl (lv_at hl 0 rfl) ?_
  refine va_get (D := g.1) (ci := 5) (v := .int ((V 16) 1)) (C := RX5) (T := TX5) (N := 11) hx hb hts inX5_stallOf_RX5 hown hK hP 0 rfl rfl 6 (Nat.le_of_ble_eq_true rfl) (hts _ (List.mem_of_getElem? (i := 2) rfl)) (fun _ h9 => h9) rfl dX5_stallOf_6 ?_
  obtain ⟨o9, hc9, h⟩ := az_bnd h
  refine az_callVi (w2 := az_cV g ad V) (As := [.int x1, .int ((V 16) 1)]) (rest := []) ⟨hx, hb, hml, hown, hts⟩ hl.1 (kX2_isStalled l g ad V x1 ((V 16) 1) o9 hc9) (cwV 2 hts gX5_stallOf_X2_isStalled rfl rfl rfl (by decide +kernel) ⟨Nat.le_of_ble_eq_true rfl, Nat.le_of_ble_eq_true rfl⟩) rfl hK hP hD hS hA [13, 14, 15] [0, 1, 2, 3, 4, 5, 6, 7, 8, 9, 10, 11, 12, 16, 17, 18, 19] [0, 1, 2, 3, 4, 5, 6, 7, 8, 9, 10, 11, 12, 17, 18, 19, 13, 14, 15, 16] rfl rfl rfl rfl rfl (by decide) rfl rfl rfl 0 rfl rfl rfl (Nat.le_of_ble_eq_true rfl) dX5_stallOf_9 ⟨Nat.zero_le _, Nat.zero_le _⟩ rfl (fun H locs hP hD hS => ?_)
  refine lv_if_eq (tgt := 27) hx hb dX5_stallOf_12 (by decide) (fun c12 => ?_) (fun c12 => ?_)
  · replace h := az_pos c12 h
    refine lv_iconst (v := (0 : Int32)) hx hb dX5_stallOf_27 (by decide) ?_
    have hP : va_P g.1 az_cl (az_cV g ad V) _ := hP
    have hD : va_D A (az_cV g ad V) := hD
    rw [← Option.some.inj h]
    exact az_iret hx hb hr hlocks hK hP hD hS dX5_stallOf_28
  · replace h := az_neg c12 h
    refine lv_aload_n hx hb dX5_stallOf_15 rfl (lv_at hl 0 rfl) ?_
    refine va_get (D := g.1) (ci := 5) (v := .int ((V 16) 3)) (C := RX5) (T := TX5) (N := 11) hx hb hts inX5_stallOf_RX5 hown hK hP 0 rfl rfl 8 (Nat.le_of_ble_eq_true rfl) (hts _ (List.mem_of_getElem? (i := 3) rfl)) (fun _ h9 => h9) rfl dX5_stallOf_16 ?_
    refine lv_aload_n hx hb dX5_stallOf_19 rfl (lv_at hl 0 rfl) ?_
    refine va_get (D := g.1) (ci := 5) (v := .int ((V 16) 2)) (C := RX5) (T := TX5) (N := 11) hx hb hts inX5_stallOf_RX5 hown hK hP 0 rfl rfl 7 (Nat.le_of_ble_eq_true rfl) (hts _ (List.mem_of_getElem? (i := 4) rfl)) (fun _ h9 => h9) rfl dX5_stallOf_20 ?_
    refine lv_isub hx hb dX5_stallOf_23 ?_
    refine lv_goto (tgt := 28) hx hb dX5_stallOf_24 (by decide) ?_
    have hP : va_P g.1 az_cl (az_cV g ad V) _ := hP
    have hD : va_D A (az_cV g ad V) := hD
    rw [← Option.some.inj h]
    exact az_iret hx hb hr hlocks hK hP hD hS dX5_stallOf_28

def FX5_reclaimableAfter (V : az_St) (x1 : Int32) : Option (Int32) := (FX0_waitingUpTo V ((((V 16) 1) + x1) - (2 : Int32))).bind (fun o12 => some (o12))
theorem inX5_reclaimableAfter_RX5 : ∀ w ∈ wsX50, w ∈ wsX5_reclaimableAfter := az_inr [10, 11, 12, 13, 14, 15, 16, 17, 18, 19, 20] (by decide +kernel)
set_option maxHeartbeats 4000000 in
set_option maxRecDepth 100000 in
theorem kX5_reclaimableAfter (l : Launch) (g : az_G) (ad : Nat → Nat) (V : az_St) (x1 : Int32) (o : Int32) (h : FX5_reclaimableAfter V x1 = some o) : az_I l yX5_reclaimableAfter wsX5_reclaimableAfter ({ frames := 1, cells := 0, slots := 0, locals := 23 } : Room) [.ref (ad 0), .int x1] g (az_cV g ad V) o (az_cV g ad V) := by
  refine az_body (cc := cX5_reclaimableAfter) (maxL := 2) (ret := (some .int)) (Qc := fun A => az_QI g (az_cV g ad V) o A) (by decide +kernel) rfl (Nat.le_of_ble_eq_true rfl) ?_
  intro p e s m args below meth c A hx hb hr hts hown hml hlocks hA hK hP hD hS ls hl
  have hl : lv_has ls 2 [(0, .ref (ad 0)), (1, .int x1)] := hl
  unfold FX5_reclaimableAfter at h
  refine lv_aload_n hx hb dX5_reclaimableAfter_0 rfl (lv_at hl 0 rfl) ?_
  refine va_get (D := g.1) (ci := 5) (v := .ref (ad 6)) (C := RX5) (T := TX5) (N := 11) hx hb hts inX5_reclaimableAfter_RX5 hown hK hP 0 rfl rfl 1 (Nat.le_of_ble_eq_true rfl) (hts _ (List.mem_of_getElem? (i := 1) rfl)) (fun _ h9 => h9) rfl dX5_reclaimableAfter_1 ?_
  refine lv_aload_n hx hb dX5_reclaimableAfter_4 rfl (lv_at hl 0 rfl) ?_
  refine va_get (D := g.1) (ci := 5) (v := .int ((V 16) 1)) (C := RX5) (T := TX5) (N := 11) hx hb hts inX5_reclaimableAfter_RX5 hown hK hP 0 rfl rfl 6 (Nat.le_of_ble_eq_true rfl) (hts _ (List.mem_of_getElem? (i := 2) rfl)) (fun _ h9 => h9) rfl dX5_reclaimableAfter_5 ?_
  refine lv_iload_n hx hb dX5_reclaimableAfter_8 rfl (lv_at hl 1 rfl) ?_
  refine lv_iadd hx hb dX5_reclaimableAfter_9 ?_
  refine lv_iconst (v := (2 : Int32)) hx hb dX5_reclaimableAfter_10 (by decide) ?_
  refine lv_isub hx hb dX5_reclaimableAfter_11 ?_
  obtain ⟨o12, hc12, h⟩ := az_bnd h
  refine az_callVi (w2 := az_cV g ad V) (As := [.int ((((V 16) 1) + x1) - (2 : Int32))]) (rest := []) ⟨hx, hb, hml, hown, hts⟩ hl.1 (kX0_waitingUpTo l g ad V ((((V 16) 1) + x1) - (2 : Int32)) o12 hc12) (cwV 1 hts gX5_reclaimableAfter_X0_waitingUpTo rfl rfl rfl (by decide +kernel) ⟨Nat.le_of_ble_eq_true rfl, Nat.le_of_ble_eq_true rfl⟩) rfl hK hP hD hS hA [6, 7, 8, 9, 10, 11, 12] [0, 1, 2, 3, 4, 5, 13, 14, 15, 16, 17, 18, 19] [0, 1, 2, 3, 4, 5, 13, 14, 15, 16, 17, 18, 19, 6, 7, 8, 9, 10, 11, 12] rfl rfl rfl rfl rfl (by decide) rfl rfl rfl 0 rfl rfl rfl (Nat.le_of_ble_eq_true rfl) dX5_reclaimableAfter_12 ⟨Nat.zero_le _, Nat.zero_le _⟩ rfl (fun H locs hP hD hS => ?_)
  have hP : va_P g.1 az_cl (az_cV g ad V) _ := hP
  have hD : va_D A (az_cV g ad V) := hD
  rw [← Option.some.inj h]
  exact az_iret hx hb hr hlocks hK hP hD hS dX5_reclaimableAfter_15

def FX5_reclaimableIfGone (V : az_St) (x1 : Int32) : Option (Int32) := (FX2_advancesWithout V x1 ((V 16) 1)).bind (fun o10 => (FX5_reclaimableAfter V o10).bind (fun o13 => some (o13)))
theorem inX5_reclaimableIfGone_RX5 : ∀ w ∈ wsX50, w ∈ wsX5_reclaimableIfGone := az_inr [35, 36, 37, 38, 39, 40, 41, 42, 43, 44, 45] (by decide +kernel)
set_option maxHeartbeats 4000000 in
set_option maxRecDepth 100000 in
theorem kX5_reclaimableIfGone (l : Launch) (g : az_G) (ad : Nat → Nat) (V : az_St) (x1 : Int32) (o : Int32) (h : FX5_reclaimableIfGone V x1 = some o) : az_I l yX5_reclaimableIfGone wsX5_reclaimableIfGone ({ frames := 3, cells := 0, slots := 0, locals := 67 } : Room) [.ref (ad 0), .int x1] g (az_cV g ad V) o (az_cV g ad V) := by
  refine az_body (cc := cX5_reclaimableIfGone) (maxL := 2) (ret := (some .int)) (Qc := fun A => az_QI g (az_cV g ad V) o A) (by decide +kernel) rfl (Nat.le_of_ble_eq_true rfl) ?_
  intro p e s m args below meth c A hx hb hr hts hown hml hlocks hA hK hP hD hS ls hl
  have hl : lv_has ls 2 [(0, .ref (ad 0)), (1, .int x1)] := hl
  unfold FX5_reclaimableIfGone at h
  refine lv_aload_n hx hb dX5_reclaimableIfGone_0 rfl (lv_at hl 0 rfl) ?_
  refine lv_aload_n hx hb dX5_reclaimableIfGone_1 rfl (lv_at hl 0 rfl) ?_
  refine va_get (D := g.1) (ci := 5) (v := .ref (ad 13)) (C := RX5) (T := TX5) (N := 11) hx hb hts inX5_reclaimableIfGone_RX5 hown hK hP 0 rfl rfl 2 (Nat.le_of_ble_eq_true rfl) (hts _ (List.mem_of_getElem? (i := 1) rfl)) (fun _ h9 => h9) rfl dX5_reclaimableIfGone_2 ?_
  refine lv_iload_n hx hb dX5_reclaimableIfGone_5 rfl (lv_at hl 1 rfl) ?_
  refine lv_aload_n hx hb dX5_reclaimableIfGone_6 rfl (lv_at hl 0 rfl) ?_
  refine va_get (D := g.1) (ci := 5) (v := .int ((V 16) 1)) (C := RX5) (T := TX5) (N := 11) hx hb hts inX5_reclaimableIfGone_RX5 hown hK hP 0 rfl rfl 6 (Nat.le_of_ble_eq_true rfl) (hts _ (List.mem_of_getElem? (i := 2) rfl)) (fun _ h9 => h9) rfl dX5_reclaimableIfGone_7 ?_
  obtain ⟨o10, hc10, h⟩ := az_bnd h
  refine az_callVi (w2 := az_cV g ad V) (As := [.int x1, .int ((V 16) 1)]) (rest := [.ref (ad 0)]) ⟨hx, hb, hml, hown, hts⟩ hl.1 (kX2_advancesWithout l g ad V x1 ((V 16) 1) o10 hc10) (cwV 2 hts gX5_reclaimableIfGone_X2_advancesWithout rfl rfl rfl (by decide +kernel) ⟨Nat.le_of_ble_eq_true rfl, Nat.le_of_ble_eq_true rfl⟩) rfl hK hP hD hS hA [13, 14, 15] [0, 1, 2, 3, 4, 5, 6, 7, 8, 9, 10, 11, 12, 16, 17, 18, 19] [0, 1, 2, 3, 4, 5, 6, 7, 8, 9, 10, 11, 12, 17, 18, 19, 13, 14, 15, 16] rfl rfl rfl rfl rfl (by decide) rfl rfl rfl 0 rfl rfl rfl (Nat.le_of_ble_eq_true rfl) dX5_reclaimableIfGone_10 ⟨Nat.zero_le _, Nat.zero_le _⟩ rfl (fun H locs hP hD hS => ?_)
  obtain ⟨o13, hc13, h⟩ := az_bnd h
  refine az_callVi (w2 := az_cV g ad V) (As := [.int o10]) (rest := []) ⟨hx, hb, hml, hown, hts⟩ hl.1 (kX5_reclaimableAfter l g ad V o10 o13 hc13) (cwV 1 hts gX5_reclaimableIfGone_X5_reclaimableAfter rfl rfl rfl (by decide +kernel) ⟨Nat.le_of_ble_eq_true rfl, Nat.le_of_ble_eq_true rfl⟩) rfl hK hP hD hS hA [0, 1, 2, 3, 4, 5, 6, 7, 8, 9, 10, 11, 12, 13, 14, 15, 16, 17, 18, 19] [] [0, 1, 2, 3, 4, 5, 6, 7, 8, 9, 10, 11, 12, 13, 14, 15, 16, 17, 18, 19] rfl rfl rfl rfl rfl (by decide) rfl rfl rfl 0 rfl rfl rfl (Nat.le_of_ble_eq_true rfl) dX5_reclaimableIfGone_13 ⟨Nat.zero_le _, Nat.zero_le _⟩ rfl (fun H locs hP hD hS => ?_)
  have hP : va_P g.1 az_cl (az_cV g ad V) _ := hP
  have hD : va_D A (az_cV g ad V) := hD
  rw [← Option.some.inj h]
  exact az_iret hx hb hr hlocks hK hP hD hS dX5_reclaimableIfGone_16

def FX5_blocksIn (V : az_St) (x1 : Int32) (x2 : Int32) : Option (Int32) := (FX0_inState V (x1 * (16 : Int32)) ((x1 * (16 : Int32)) + ((V 4) 1)) x2).bind (fun o20 => some (o20))
theorem inX5_blocksIn_RX3 : ∀ w ∈ wsX30, w ∈ wsX5_blocksIn := az_inr [21, 22, 23, 24, 25, 26] (by decide +kernel)
theorem inX5_blocksIn_RX5 : ∀ w ∈ wsX50, w ∈ wsX5_blocksIn := az_inr [10, 11, 12, 13, 14, 15, 16, 17, 18, 19, 20] (by decide +kernel)
set_option maxHeartbeats 4000000 in
set_option maxRecDepth 100000 in
theorem kX5_blocksIn (l : Launch) (g : az_G) (ad : Nat → Nat) (V : az_St) (x1 : Int32) (x2 : Int32) (o : Int32) (h : FX5_blocksIn V x1 x2 = some o) : az_I l yX5_blocksIn wsX5_blocksIn ({ frames := 1, cells := 0, slots := 0, locals := 25 } : Room) [.ref (ad 0), .int x1, .int x2] g (az_cV g ad V) o (az_cV g ad V) := by
  refine az_body (cc := cX5_blocksIn) (maxL := 4) (ret := (some .int)) (Qc := fun A => az_QI g (az_cV g ad V) o A) (by decide +kernel) rfl (Nat.le_of_ble_eq_true rfl) ?_
  intro p e s m args below meth c A hx hb hr hts hown hml hlocks hA hK hP hD hS ls hl
  have hl : lv_has ls 4 [(0, .ref (ad 0)), (1, .int x1), (2, .int x2)] := hl
  unfold FX5_blocksIn at h
  refine lv_iload_n hx hb dX5_blocksIn_0 rfl (lv_at hl 1 rfl) ?_
  refine lv_bipush (v := (16 : Int32)) hx hb dX5_blocksIn_1 (by decide) ?_
  refine lv_imul hx hb dX5_blocksIn_3 ?_
  refine lv_istore_n (lv' := [(3, .int (x1 * (16 : Int32))), (0, .ref (ad 0)), (1, .int x1), (2, .int x2)]) hx hb dX5_blocksIn_4 rfl hl (by decide) rfl (fun ls hl => ?_)
  refine lv_aload_n hx hb dX5_blocksIn_5 rfl (lv_at hl 1 rfl) ?_
  refine va_get (D := g.1) (ci := 5) (v := .ref (ad 6)) (C := RX5) (T := TX5) (N := 11) hx hb hts inX5_blocksIn_RX5 hown hK hP 0 rfl rfl 1 (Nat.le_of_ble_eq_true rfl) (hts _ (List.mem_of_getElem? (i := 1) rfl)) (fun _ h9 => h9) rfl dX5_blocksIn_6 ?_
  refine lv_iload_n hx hb dX5_blocksIn_9 rfl (lv_at hl 0 rfl) ?_
  refine lv_iload_n hx hb dX5_blocksIn_10 rfl (lv_at hl 0 rfl) ?_
  refine lv_aload_n hx hb dX5_blocksIn_11 rfl (lv_at hl 1 rfl) ?_
  refine va_get (D := g.1) (ci := 5) (v := .ref (ad 1)) (C := RX5) (T := TX5) (N := 11) hx hb hts inX5_blocksIn_RX5 hown hK hP 0 rfl rfl 0 (Nat.le_of_ble_eq_true rfl) (hts _ (List.mem_of_getElem? (i := 2) rfl)) (fun _ h9 => h9) rfl dX5_blocksIn_12 ?_
  refine va_get (D := g.1) (ci := 3) (v := .int ((V 4) 1)) (C := RX3) (T := TX3) (N := 6) hx hb hts inX5_blocksIn_RX3 hown hK hP 1 rfl rfl 5 (Nat.le_of_ble_eq_true rfl) (hts _ (List.mem_of_getElem? (i := 3) rfl)) (fun _ h9 => h9) rfl dX5_blocksIn_15 ?_
  refine lv_iadd hx hb dX5_blocksIn_18 ?_
  refine lv_iload_n hx hb dX5_blocksIn_19 rfl (lv_at hl 3 rfl) ?_
  obtain ⟨o20, hc20, h⟩ := az_bnd h
  refine az_callVi (w2 := az_cV g ad V) (As := [.int (x1 * (16 : Int32)), .int ((x1 * (16 : Int32)) + ((V 4) 1)), .int x2]) (rest := []) ⟨hx, hb, hml, hown, hts⟩ hl.1 (kX0_inState l g ad V (x1 * (16 : Int32)) ((x1 * (16 : Int32)) + ((V 4) 1)) x2 o20 hc20) (cwV 3 hts gX5_blocksIn_X0_inState rfl rfl rfl (by decide +kernel) ⟨Nat.le_of_ble_eq_true rfl, Nat.le_of_ble_eq_true rfl⟩) rfl hK hP hD hS hA [6, 7, 8, 9, 10, 11, 12] [0, 1, 2, 3, 4, 5, 13, 14, 15, 16, 17, 18, 19] [0, 1, 2, 3, 4, 5, 13, 14, 15, 16, 17, 18, 19, 6, 7, 8, 9, 10, 11, 12] rfl rfl rfl rfl rfl (by decide) rfl rfl rfl 0 rfl rfl rfl (Nat.le_of_ble_eq_true rfl) dX5_blocksIn_20 ⟨Nat.zero_le _, Nat.zero_le _⟩ rfl (fun H locs hP hD hS => ?_)
  have hP : va_P g.1 az_cl (az_cV g ad V) _ := hP
  have hD : va_D A (az_cV g ad V) := hD
  rw [← Option.some.inj h]
  exact az_iret hx hb hr hlocks hK hP hD hS dX5_blocksIn_23

def FX5_useOf (V : az_St) (x1 : Int32) : Option (Int32) := (FX5_blocksIn V x1 (1 : Int32)).bind (fun o3 => (FX5_blocksIn V x1 (2 : Int32)).bind (fun o9 => some (o3 + o9)))
set_option maxHeartbeats 4000000 in
set_option maxRecDepth 100000 in
theorem kX5_useOf (l : Launch) (g : az_G) (ad : Nat → Nat) (V : az_St) (x1 : Int32) (o : Int32) (h : FX5_useOf V x1 = some o) : az_I l yX5_useOf wsX5_useOf ({ frames := 2, cells := 0, slots := 0, locals := 48 } : Room) [.ref (ad 0), .int x1] g (az_cV g ad V) o (az_cV g ad V) := by
  refine az_body (cc := cX5_useOf) (maxL := 2) (ret := (some .int)) (Qc := fun A => az_QI g (az_cV g ad V) o A) (by decide +kernel) rfl (Nat.le_of_ble_eq_true rfl) ?_
  intro p e s m args below meth c A hx hb hr hts hown hml hlocks hA hK hP hD hS ls hl
  have hl : lv_has ls 2 [(0, .ref (ad 0)), (1, .int x1)] := hl
  unfold FX5_useOf at h
  refine lv_aload_n hx hb dX5_useOf_0 rfl (lv_at hl 0 rfl) ?_
  refine lv_iload_n hx hb dX5_useOf_1 rfl (lv_at hl 1 rfl) ?_
  refine lv_iconst (v := (1 : Int32)) hx hb dX5_useOf_2 (by decide) ?_
  obtain ⟨o3, hc3, h⟩ := az_bnd h
  refine az_callVi (w2 := az_cV g ad V) (As := [.int x1, .int (1 : Int32)]) (rest := []) ⟨hx, hb, hml, hown, hts⟩ hl.1 (kX5_blocksIn l g ad V x1 (1 : Int32) o3 hc3) (cwV 2 hts gX5_useOf_X5_blocksIn rfl rfl rfl (by decide +kernel) ⟨Nat.le_of_ble_eq_true rfl, Nat.le_of_ble_eq_true rfl⟩) rfl hK hP hD hS hA [0, 1, 2, 3, 4, 5, 6, 7, 8, 9, 10, 11, 12, 13, 14, 15, 16, 17, 18, 19] [] [0, 1, 2, 3, 4, 5, 6, 7, 8, 9, 10, 11, 12, 13, 14, 15, 16, 17, 18, 19] rfl rfl rfl rfl rfl (by decide) rfl rfl rfl 0 rfl rfl rfl (Nat.le_of_ble_eq_true rfl) dX5_useOf_3 ⟨Nat.zero_le _, Nat.zero_le _⟩ rfl (fun H locs hP hD hS => ?_)
  refine lv_aload_n hx hb dX5_useOf_6 rfl (lv_at hl 0 rfl) ?_
  refine lv_iload_n hx hb dX5_useOf_7 rfl (lv_at hl 1 rfl) ?_
  refine lv_iconst (v := (2 : Int32)) hx hb dX5_useOf_8 (by decide) ?_
  obtain ⟨o9, hc9, h⟩ := az_bnd h
  refine az_callVi (w2 := az_cV g ad V) (As := [.int x1, .int (2 : Int32)]) (rest := [.int o3]) ⟨hx, hb, hml, hown, hts⟩ hl.1 (kX5_blocksIn l g ad V x1 (2 : Int32) o9 hc9) (cwV 2 hts gX5_useOf_X5_blocksIn rfl rfl rfl (by decide +kernel) ⟨Nat.le_of_ble_eq_true rfl, Nat.le_of_ble_eq_true rfl⟩) rfl hK hP hD hS hA [0, 1, 2, 3, 4, 5, 6, 7, 8, 9, 10, 11, 12, 13, 14, 15, 16, 17, 18, 19] [] [0, 1, 2, 3, 4, 5, 6, 7, 8, 9, 10, 11, 12, 13, 14, 15, 16, 17, 18, 19] rfl rfl rfl rfl rfl (by decide) rfl rfl rfl 0 rfl rfl rfl (Nat.le_of_ble_eq_true rfl) dX5_useOf_9 ⟨Nat.zero_le _, Nat.zero_le _⟩ rfl (fun H locs hP hD hS => ?_)
  refine lv_iadd hx hb dX5_useOf_12 ?_
  have hP : va_P g.1 az_cl (az_cV g ad V) _ := hP
  have hD : va_D A (az_cV g ad V) := hD
  rw [← Option.some.inj h]
  exact az_iret hx hb hr hlocks hK hP hD hS dX5_useOf_13

def FX5_ageOf (V : az_St) (x1 : Int32) : Option (Int32) := (FX0_latestTick V (x1 * (16 : Int32)) ((x1 * (16 : Int32)) + ((V 4) 1))).bind (fun o19 => if o19 = (-1 : Int32) then (some ((0 : Int32))) else (some (((V 16) 3) - o19)))
theorem inX5_ageOf_RX3 : ∀ w ∈ wsX30, w ∈ wsX5_ageOf := az_inr [26, 27, 28, 29, 30, 31] (by decide +kernel)
theorem inX5_ageOf_RX5 : ∀ w ∈ wsX50, w ∈ wsX5_ageOf := az_inr [15, 16, 17, 18, 19, 20, 21, 22, 23, 24, 25] (by decide +kernel)
set_option maxHeartbeats 4000000 in
set_option maxRecDepth 100000 in
theorem kX5_ageOf (l : Launch) (g : az_G) (ad : Nat → Nat) (V : az_St) (x1 : Int32) (o : Int32) (h : FX5_ageOf V x1 = some o) : az_I l yX5_ageOf wsX5_ageOf ({ frames := 2, cells := 0, slots := 0, locals := 64 } : Room) [.ref (ad 0), .int x1] g (az_cV g ad V) o (az_cV g ad V) := by
  refine az_body (cc := cX5_ageOf) (maxL := 4) (ret := (some .int)) (Qc := fun A => az_QI g (az_cV g ad V) o A) (by decide +kernel) rfl (Nat.le_of_ble_eq_true rfl) ?_
  intro p e s m args below meth c A hx hb hr hts hown hml hlocks hA hK hP hD hS ls hl
  have hl : lv_has ls 4 [(0, .ref (ad 0)), (1, .int x1)] := hl
  unfold FX5_ageOf at h
  refine lv_iload_n hx hb dX5_ageOf_0 rfl (lv_at hl 1 rfl) ?_
  refine lv_bipush (v := (16 : Int32)) hx hb dX5_ageOf_1 (by decide) ?_
  refine lv_imul hx hb dX5_ageOf_3 ?_
  refine lv_istore_n (lv' := [(2, .int (x1 * (16 : Int32))), (0, .ref (ad 0)), (1, .int x1)]) hx hb dX5_ageOf_4 rfl hl (by decide) rfl (fun ls hl => ?_)
  refine lv_aload_n hx hb dX5_ageOf_5 rfl (lv_at hl 1 rfl) ?_
  refine va_get (D := g.1) (ci := 5) (v := .ref (ad 6)) (C := RX5) (T := TX5) (N := 11) hx hb hts inX5_ageOf_RX5 hown hK hP 0 rfl rfl 1 (Nat.le_of_ble_eq_true rfl) (hts _ (List.mem_of_getElem? (i := 1) rfl)) (fun _ h9 => h9) rfl dX5_ageOf_6 ?_
  refine lv_iload_n hx hb dX5_ageOf_9 rfl (lv_at hl 0 rfl) ?_
  refine lv_iload_n hx hb dX5_ageOf_10 rfl (lv_at hl 0 rfl) ?_
  refine lv_aload_n hx hb dX5_ageOf_11 rfl (lv_at hl 1 rfl) ?_
  refine va_get (D := g.1) (ci := 5) (v := .ref (ad 1)) (C := RX5) (T := TX5) (N := 11) hx hb hts inX5_ageOf_RX5 hown hK hP 0 rfl rfl 0 (Nat.le_of_ble_eq_true rfl) (hts _ (List.mem_of_getElem? (i := 2) rfl)) (fun _ h9 => h9) rfl dX5_ageOf_12 ?_
  refine va_get (D := g.1) (ci := 3) (v := .int ((V 4) 1)) (C := RX3) (T := TX3) (N := 6) hx hb hts inX5_ageOf_RX3 hown hK hP 1 rfl rfl 5 (Nat.le_of_ble_eq_true rfl) (hts _ (List.mem_of_getElem? (i := 3) rfl)) (fun _ h9 => h9) rfl dX5_ageOf_15 ?_
  refine lv_iadd hx hb dX5_ageOf_18 ?_
  obtain ⟨o19, hc19, h⟩ := az_bnd h
  refine az_callVi (w2 := az_cV g ad V) (As := [.int (x1 * (16 : Int32)), .int ((x1 * (16 : Int32)) + ((V 4) 1))]) (rest := []) ⟨hx, hb, hml, hown, hts⟩ hl.1 (kX0_latestTick l g ad V (x1 * (16 : Int32)) ((x1 * (16 : Int32)) + ((V 4) 1)) o19 hc19) (cwV 2 hts gX5_ageOf_X0_latestTick rfl rfl rfl (by decide +kernel) ⟨Nat.le_of_ble_eq_true rfl, Nat.le_of_ble_eq_true rfl⟩) rfl hK hP hD hS hA [6, 7, 8, 9, 10, 11, 12] [0, 1, 2, 3, 4, 5, 13, 14, 15, 16, 17, 18, 19] [0, 1, 2, 3, 4, 5, 13, 14, 15, 16, 17, 18, 19, 6, 7, 8, 9, 10, 11, 12] rfl rfl rfl rfl rfl (by decide) rfl rfl rfl 0 rfl rfl rfl (Nat.le_of_ble_eq_true rfl) dX5_ageOf_19 ⟨Nat.zero_le _, Nat.zero_le _⟩ rfl (fun H locs hP hD hS => ?_)
  refine lv_istore_n (lv' := [(3, .int o19), (2, .int (x1 * (16 : Int32))), (0, .ref (ad 0)), (1, .int x1)]) hx hb dX5_ageOf_22 rfl hl (by decide) rfl (fun ls hl => ?_)
  refine lv_iload_n hx hb dX5_ageOf_23 rfl (lv_at hl 0 rfl) ?_
  refine lv_iconst (v := (-1 : Int32)) hx hb dX5_ageOf_24 (by decide) ?_
  refine lv_icmp_ne (tgt := 32) hx hb dX5_ageOf_25 (by decide) (fun c25 => ?_) (fun c25 => ?_)
  · replace h := az_neg c25 h
    refine lv_aload_n hx hb dX5_ageOf_32 rfl (lv_at hl 2 rfl) ?_
    refine va_get (D := g.1) (ci := 5) (v := .int ((V 16) 3)) (C := RX5) (T := TX5) (N := 11) hx hb hts inX5_ageOf_RX5 hown hK hP 0 rfl rfl 8 (Nat.le_of_ble_eq_true rfl) (hts _ (List.mem_of_getElem? (i := 4) rfl)) (fun _ h9 => h9) rfl dX5_ageOf_33 ?_
    refine lv_iload_n hx hb dX5_ageOf_36 rfl (lv_at hl 0 rfl) ?_
    refine lv_isub hx hb dX5_ageOf_37 ?_
    have hP : va_P g.1 az_cl (az_cV g ad V) _ := hP
    have hD : va_D A (az_cV g ad V) := hD
    rw [← Option.some.inj h]
    exact az_iret hx hb hr hlocks hK hP hD hS dX5_ageOf_38
  · replace h := az_pos c25 h
    refine lv_iconst (v := (0 : Int32)) hx hb dX5_ageOf_28 (by decide) ?_
    refine lv_goto (tgt := 38) hx hb dX5_ageOf_29 (by decide) ?_
    have hP : va_P g.1 az_cl (az_cV g ad V) _ := hP
    have hD : va_D A (az_cV g ad V) := hD
    rw [← Option.some.inj h]
    exact az_iret hx hb hr hlocks hK hP hD hS dX5_ageOf_38

def FX5_sumOfAges_L10 : Nat → az_St → Int32 → Int32 → Int32 → Int32 → Option (Int32)
  | 0, _, _, _, _, _ => none
  | n + 1, V, x1, y2, y3, y4 => if y2 + ((V 4) 1) ≤ y4 then (some (y3)) else ((FX0_isNeeded V y4).bind (fun o30 => if o30 = (0 : Int32) then (FX5_sumOfAges_L10 n V x1 y2 y3 (y4 + (1 : Int32))) else (if az_in y4 160 = true then FX5_sumOfAges_L10 n V x1 y2 (y3 + (((V 16) 3) - ((V 8) y4.toNatClampNeg))) (y4 + (1 : Int32)) else none)))
theorem FX5_sumOfAges_L10_s (n : Nat) (V : az_St) (x1 : Int32) (y2 : Int32) (y3 : Int32) (y4 : Int32) : FX5_sumOfAges_L10 (n + 1) V x1 y2 y3 y4 = (if y2 + ((V 4) 1) ≤ y4 then (some (y3)) else ((FX0_isNeeded V y4).bind (fun o30 => if o30 = (0 : Int32) then (FX5_sumOfAges_L10 n V x1 y2 y3 (y4 + (1 : Int32))) else (if az_in y4 160 = true then FX5_sumOfAges_L10 n V x1 y2 (y3 + (((V 16) 3) - ((V 8) y4.toNatClampNeg))) (y4 + (1 : Int32)) else none)))) := rfl
def FX5_sumOfAges (V : az_St) (x1 : Int32) : Option (Int32) := FX5_sumOfAges_L10 az_fuel V x1 (x1 * (16 : Int32)) (0 : Int32) (x1 * (16 : Int32))
theorem inX5_sumOfAges_RX0 : ∀ w ∈ wsX00, w ∈ wsX5_sumOfAges := az_inr [29, 30, 31, 32, 33, 34] (by decide +kernel)
theorem inX5_sumOfAges_RX3 : ∀ w ∈ wsX30, w ∈ wsX5_sumOfAges := az_inr [23, 24, 25, 26, 27, 28] (by decide +kernel)
theorem inX5_sumOfAges_RX5 : ∀ w ∈ wsX50, w ∈ wsX5_sumOfAges := az_inr [12, 13, 14, 15, 16, 17, 18, 19, 20, 21, 22] (by decide +kernel)
set_option maxHeartbeats 4000000 in
set_option maxRecDepth 100000 in
theorem kX5_sumOfAges (l : Launch) (g : az_G) (ad : Nat → Nat) (V : az_St) (x1 : Int32) (o : Int32) (h : FX5_sumOfAges V x1 = some o) : az_I l yX5_sumOfAges wsX5_sumOfAges ({ frames := 1, cells := 0, slots := 0, locals := 21 } : Room) [.ref (ad 0), .int x1] g (az_cV g ad V) o (az_cV g ad V) := by
  refine az_body (cc := cX5_sumOfAges) (maxL := 5) (ret := (some .int)) (Qc := fun A => az_QI g (az_cV g ad V) o A) (by decide +kernel) rfl (Nat.le_of_ble_eq_true rfl) ?_
  intro p e s m args below meth c A hx hb hr hts hown hml hlocks hA hK hP hD hS ls hl
  have hl : lv_has ls 5 [(0, .ref (ad 0)), (1, .int x1)] := hl
  unfold FX5_sumOfAges at h
  have hL10 : ∀ (n : Nat) (y2 : Int32) (y3 : Int32) (y4 : Int32) (H : Heap) (locs : List Loc) (ls : Array Slot), FX5_sumOfAges_L10 n V x1 y2 y3 y4 = some o → va_P g.1 az_cl (az_cV g ad V) H → va_D A (az_cV g ad V) → va_S A s.heap H locs → lv_has ls 5 [(0, .ref (ad 0)), (2, .int y2), (3, .int y3), (4, .int y4)] → W p l e ({ frames := 1, cells := 0, slots := 0, locals := 21 } : Room) s m args below meth c H locs 0 0 (MQ below (az_QI g (az_cV g ad V) o A) args s 0 0 A) (F0 m 10 ls []) := by
    intro n
    induction n with
    | zero => intro y2 y3 y4 H locs ls h; exact az_non h
    | succ n ih =>
      intro y2 y3 y4 H locs ls h hP hD hS hl
      rw [FX5_sumOfAges_L10_s] at h
      refine lv_iload hx hb dX5_sumOfAges_10 (lv_at hl 3 rfl) ?_
      refine lv_iload_n hx hb dX5_sumOfAges_12 rfl (lv_at hl 1 rfl) ?_
      refine lv_aload_n hx hb dX5_sumOfAges_13 rfl (lv_at hl 0 rfl) ?_
      refine va_get (D := g.1) (ci := 5) (v := .ref (ad 1)) (C := RX5) (T := TX5) (N := 11) hx hb hts inX5_sumOfAges_RX5 hown hK hP 0 rfl rfl 0 (Nat.le_of_ble_eq_true rfl) (hts _ (List.mem_of_getElem? (i := 1) rfl)) (fun _ h9 => h9) rfl dX5_sumOfAges_14 ?_
      refine va_get (D := g.1) (ci := 3) (v := .int ((V 4) 1)) (C := RX3) (T := TX3) (N := 6) hx hb hts inX5_sumOfAges_RX3 hown hK hP 1 rfl rfl 5 (Nat.le_of_ble_eq_true rfl) (hts _ (List.mem_of_getElem? (i := 2) rfl)) (fun _ h9 => h9) rfl dX5_sumOfAges_17 ?_
      refine lv_iadd hx hb dX5_sumOfAges_20 ?_
      refine lv_icmp_ge (tgt := 60) hx hb dX5_sumOfAges_21 (by decide) (fun c21 => ?_) (fun c21 => ?_)
      · replace h := az_pos c21 h
        refine lv_iload_n hx hb dX5_sumOfAges_60 rfl (lv_at hl 2 rfl) ?_
        have hP : va_P g.1 az_cl (az_cV g ad V) _ := hP
        have hD : va_D A (az_cV g ad V) := hD
        rw [← Option.some.inj h]
        exact az_iret hx hb hr hlocks hK hP hD hS dX5_sumOfAges_61
      · replace h := az_neg c21 h
        refine lv_aload_n hx hb dX5_sumOfAges_24 rfl (lv_at hl 0 rfl) ?_
        refine va_get (D := g.1) (ci := 5) (v := .ref (ad 6)) (C := RX5) (T := TX5) (N := 11) hx hb hts inX5_sumOfAges_RX5 hown hK hP 0 rfl rfl 1 (Nat.le_of_ble_eq_true rfl) (hts _ (List.mem_of_getElem? (i := 3) rfl)) (fun _ h9 => h9) rfl dX5_sumOfAges_25 ?_
        refine lv_iload hx hb dX5_sumOfAges_28 (lv_at hl 3 rfl) ?_
        obtain ⟨o30, hc30, h⟩ := az_bnd h
        refine az_callVi (w2 := az_cV g ad V) (As := [.int y4]) (rest := []) ⟨hx, hb, hml, hown, hts⟩ hl.1 (kX0_isNeeded l g ad V y4 o30 hc30) (cwV 1 hts gX5_sumOfAges_X0_isNeeded rfl rfl rfl (by decide +kernel) ⟨Nat.le_of_ble_eq_true rfl, Nat.le_of_ble_eq_true rfl⟩) rfl hK hP hD hS hA [6, 7, 8, 9, 10, 11, 12] [0, 1, 2, 3, 4, 5, 13, 14, 15, 16, 17, 18, 19] [0, 1, 2, 3, 4, 5, 13, 14, 15, 16, 17, 18, 19, 6, 7, 8, 9, 10, 11, 12] rfl rfl rfl rfl rfl (by decide) rfl rfl rfl 0 rfl rfl rfl (Nat.le_of_ble_eq_true rfl) dX5_sumOfAges_30 ⟨Nat.zero_le _, Nat.zero_le _⟩ rfl (fun H locs hP hD hS => ?_)
        refine lv_if_eq (tgt := 54) hx hb dX5_sumOfAges_33 (by decide) (fun c33 => ?_) (fun c33 => ?_)
        · replace h := az_pos c33 h
          refine lv_iinc (v := y4 + (1 : Int32)) (lv' := [(4, .int (y4 + (1 : Int32))), (0, .ref (ad 0)), (2, .int y2), (3, .int y3)]) hx hb dX5_sumOfAges_54 hl (k := 3) rfl (rfl) (by decide) rfl (fun ls hl => ?_)
          refine lv_goto (tgt := 10) hx hb dX5_sumOfAges_57 (by decide) ?_
          have hP : va_P g.1 az_cl (az_cV g ad V) _ := hP
          have hD : va_D A (az_cV g ad V) := hD
          exact ih y2 y3 (y4 + (1 : Int32)) _ _ ls h hP hD hS (lv_sub hl [1, 2, 3, 0] rfl)
        · replace h := az_neg c33 h
          refine lv_iload_n hx hb dX5_sumOfAges_36 rfl (lv_at hl 2 rfl) ?_
          refine lv_aload_n hx hb dX5_sumOfAges_37 rfl (lv_at hl 0 rfl) ?_
          refine va_get (D := g.1) (ci := 5) (v := .int ((V 16) 3)) (C := RX5) (T := TX5) (N := 11) hx hb hts inX5_sumOfAges_RX5 hown hK hP 0 rfl rfl 8 (Nat.le_of_ble_eq_true rfl) (hts _ (List.mem_of_getElem? (i := 4) rfl)) (fun _ h9 => h9) rfl dX5_sumOfAges_38 ?_
          refine lv_aload_n hx hb dX5_sumOfAges_41 rfl (lv_at hl 0 rfl) ?_
          refine va_get (D := g.1) (ci := 5) (v := .ref (ad 6)) (C := RX5) (T := TX5) (N := 11) hx hb hts inX5_sumOfAges_RX5 hown hK hP 0 rfl rfl 1 (Nat.le_of_ble_eq_true rfl) (hts _ (List.mem_of_getElem? (i := 3) rfl)) (fun _ h9 => h9) rfl dX5_sumOfAges_42 ?_
          refine va_get (D := g.1) (ci := 0) (v := .ref (ad 10)) (C := RX0) (T := TX0) (N := 6) hx hb hts inX5_sumOfAges_RX0 hown hK hP 6 rfl rfl 3 (Nat.le_of_ble_eq_true rfl) (hts _ (List.mem_of_getElem? (i := 5) rfl)) (fun _ h9 => h9) rfl dX5_sumOfAges_45 ?_
          refine lv_iload hx hb dX5_sumOfAges_48 (lv_at hl 3 rfl) ?_
          obtain ⟨i50, h⟩ := az_ite h
          refine va_iald (D := g.1) (f := (V 8)) hx hb hK hP 10 0 rfl rfl (az_vin i50) dX5_sumOfAges_50 ?_
          refine lv_isub hx hb dX5_sumOfAges_51 ?_
          refine lv_iadd hx hb dX5_sumOfAges_52 ?_
          refine lv_istore_n (lv' := [(3, .int (y3 + (((V 16) 3) - ((V 8) y4.toNatClampNeg)))), (0, .ref (ad 0)), (2, .int y2), (4, .int y4)]) hx hb dX5_sumOfAges_53 rfl hl (by decide) rfl (fun ls hl => ?_)
          refine lv_iinc (v := y4 + (1 : Int32)) (lv' := [(4, .int (y4 + (1 : Int32))), (3, .int (y3 + (((V 16) 3) - ((V 8) y4.toNatClampNeg)))), (0, .ref (ad 0)), (2, .int y2)]) hx hb dX5_sumOfAges_54 hl (k := 3) rfl (rfl) (by decide) rfl (fun ls hl => ?_)
          refine lv_goto (tgt := 10) hx hb dX5_sumOfAges_57 (by decide) ?_
          have hP : va_P g.1 az_cl (az_cV g ad V) _ := hP
          have hD : va_D A (az_cV g ad V) := hD
          exact ih y2 (y3 + (((V 16) 3) - ((V 8) y4.toNatClampNeg))) (y4 + (1 : Int32)) _ _ ls h hP hD hS (lv_sub hl [2, 3, 1, 0] rfl)
  refine lv_iload_n hx hb dX5_sumOfAges_0 rfl (lv_at hl 1 rfl) ?_
  refine lv_bipush (v := (16 : Int32)) hx hb dX5_sumOfAges_1 (by decide) ?_
  refine lv_imul hx hb dX5_sumOfAges_3 ?_
  refine lv_istore_n (lv' := [(2, .int (x1 * (16 : Int32))), (0, .ref (ad 0)), (1, .int x1)]) hx hb dX5_sumOfAges_4 rfl hl (by decide) rfl (fun ls hl => ?_)
  refine lv_iconst (v := (0 : Int32)) hx hb dX5_sumOfAges_5 (by decide) ?_
  refine lv_istore_n (lv' := [(3, .int (0 : Int32)), (2, .int (x1 * (16 : Int32))), (0, .ref (ad 0)), (1, .int x1)]) hx hb dX5_sumOfAges_6 rfl hl (by decide) rfl (fun ls hl => ?_)
  refine lv_iload_n hx hb dX5_sumOfAges_7 rfl (lv_at hl 1 rfl) ?_
  refine lv_istore (lv' := [(4, .int (x1 * (16 : Int32))), (3, .int (0 : Int32)), (2, .int (x1 * (16 : Int32))), (0, .ref (ad 0)), (1, .int x1)]) hx hb dX5_sumOfAges_8 hl (by decide) rfl (fun ls hl => ?_)
  have hP : va_P g.1 az_cl (az_cV g ad V) _ := hP
  have hD : va_D A (az_cV g ad V) := hD
  exact hL10 az_fuel (x1 * (16 : Int32)) (0 : Int32) (x1 * (16 : Int32)) _ _ ls h hP hD hS (lv_sub hl [3, 2, 1, 0] rfl)

def FX5_canBeErased (V : az_St) (x1 : Int32) : Option (Int32) := if az_in x1 10 = true then if (V 0) x1.toNatClampNeg = (2 : Int32) then ((FX5_useOf V x1).bind (fun o15 => if o15 = (0 : Int32) then (some ((1 : Int32))) else (some ((0 : Int32))))) else (some ((0 : Int32))) else none
theorem inX5_canBeErased_RX3 : ∀ w ∈ wsX30, w ∈ wsX5_canBeErased := az_inr [31, 32, 33, 34, 35, 36] (by decide +kernel)
theorem inX5_canBeErased_RX5 : ∀ w ∈ wsX50, w ∈ wsX5_canBeErased := az_inr [20, 21, 22, 23, 24, 25, 26, 27, 28, 29, 30] (by decide +kernel)
set_option maxHeartbeats 4000000 in
set_option maxRecDepth 100000 in
theorem kX5_canBeErased (l : Launch) (g : az_G) (ad : Nat → Nat) (V : az_St) (x1 : Int32) (o : Int32) (h : FX5_canBeErased V x1 = some o) : az_I l yX5_canBeErased wsX5_canBeErased ({ frames := 3, cells := 0, slots := 0, locals := 69 } : Room) [.ref (ad 0), .int x1] g (az_cV g ad V) o (az_cV g ad V) := by
  refine az_body (cc := cX5_canBeErased) (maxL := 2) (ret := (some .boolean)) (Qc := fun A => az_QI g (az_cV g ad V) o A) (by decide +kernel) rfl (Nat.le_of_ble_eq_true rfl) ?_
  intro p e s m args below meth c A hx hb hr hts hown hml hlocks hA hK hP hD hS ls hl
  have hl : lv_has ls 2 [(0, .ref (ad 0)), (1, .int x1)] := hl
  unfold FX5_canBeErased at h
  refine lv_aload_n hx hb dX5_canBeErased_0 rfl (lv_at hl 0 rfl) ?_
  refine va_get (D := g.1) (ci := 5) (v := .ref (ad 1)) (C := RX5) (T := TX5) (N := 11) hx hb hts inX5_canBeErased_RX5 hown hK hP 0 rfl rfl 0 (Nat.le_of_ble_eq_true rfl) (hts _ (List.mem_of_getElem? (i := 1) rfl)) (fun _ h9 => h9) rfl dX5_canBeErased_1 ?_
  refine va_get (D := g.1) (ci := 3) (v := .ref (ad 2)) (C := RX3) (T := TX3) (N := 6) hx hb hts inX5_canBeErased_RX3 hown hK hP 1 rfl rfl 0 (Nat.le_of_ble_eq_true rfl) (hts _ (List.mem_of_getElem? (i := 2) rfl)) (fun _ h9 => h9) rfl dX5_canBeErased_4 ?_
  refine lv_iload_n hx hb dX5_canBeErased_7 rfl (lv_at hl 1 rfl) ?_
  obtain ⟨i8, h⟩ := az_ite h
  refine va_iald (D := g.1) (f := (V 0)) hx hb hK hP 2 0 rfl rfl (az_vin i8) dX5_canBeErased_8 ?_
  refine lv_iconst (v := (2 : Int32)) hx hb dX5_canBeErased_9 (by decide) ?_
  refine lv_icmp_ne (tgt := 25) hx hb dX5_canBeErased_10 (by decide) (fun c10 => ?_) (fun c10 => ?_)
  · replace h := az_neg c10 h
    refine lv_iconst (v := (0 : Int32)) hx hb dX5_canBeErased_25 (by decide) ?_
    have hP : va_P g.1 az_cl (az_cV g ad V) _ := hP
    have hD : va_D A (az_cV g ad V) := hD
    rw [← Option.some.inj h]
    exact az_zret hx hb hr hlocks rfl hK hP hD hS dX5_canBeErased_26
  · replace h := az_pos c10 h
    refine lv_aload_n hx hb dX5_canBeErased_13 rfl (lv_at hl 0 rfl) ?_
    refine lv_iload_n hx hb dX5_canBeErased_14 rfl (lv_at hl 1 rfl) ?_
    obtain ⟨o15, hc15, h⟩ := az_bnd h
    refine az_callVi (w2 := az_cV g ad V) (As := [.int x1]) (rest := []) ⟨hx, hb, hml, hown, hts⟩ hl.1 (kX5_useOf l g ad V x1 o15 hc15) (cwV 1 hts gX5_canBeErased_X5_useOf rfl rfl rfl (by decide +kernel) ⟨Nat.le_of_ble_eq_true rfl, Nat.le_of_ble_eq_true rfl⟩) rfl hK hP hD hS hA [0, 1, 2, 3, 4, 5, 6, 7, 8, 9, 10, 11, 12, 13, 14, 15, 16, 17, 18, 19] [] [0, 1, 2, 3, 4, 5, 6, 7, 8, 9, 10, 11, 12, 13, 14, 15, 16, 17, 18, 19] rfl rfl rfl rfl rfl (by decide) rfl rfl rfl 0 rfl rfl rfl (Nat.le_of_ble_eq_true rfl) dX5_canBeErased_15 ⟨Nat.zero_le _, Nat.zero_le _⟩ rfl (fun H locs hP hD hS => ?_)
    refine lv_if_ne (tgt := 25) hx hb dX5_canBeErased_18 (by decide) (fun c18 => ?_) (fun c18 => ?_)
    · replace h := az_neg c18 h
      refine lv_iconst (v := (0 : Int32)) hx hb dX5_canBeErased_25 (by decide) ?_
      have hP : va_P g.1 az_cl (az_cV g ad V) _ := hP
      have hD : va_D A (az_cV g ad V) := hD
      rw [← Option.some.inj h]
      exact az_zret hx hb hr hlocks rfl hK hP hD hS dX5_canBeErased_26
    · replace h := az_pos c18 h
      refine lv_iconst (v := (1 : Int32)) hx hb dX5_canBeErased_21 (by decide) ?_
      refine lv_goto (tgt := 26) hx hb dX5_canBeErased_22 (by decide) ?_
      have hP : va_P g.1 az_cl (az_cV g ad V) _ := hP
      have hD : va_D A (az_cV g ad V) := hD
      rw [← Option.some.inj h]
      exact az_zret hx hb hr hlocks rfl hK hP hD hS dX5_canBeErased_26

def FX5_advancesMissingIn (V : az_St) (x1 : Int32) : Option (Int32) := (FX0_latestWaitingEpoch V (x1 * (16 : Int32)) ((x1 * (16 : Int32)) + ((V 4) 1))).bind (fun o19 => if o19 = (-1 : Int32) then (some ((0 : Int32))) else (some ((if (0 : Int32) < (o19 + (2 : Int32)) - ((V 16) 1) then (o19 + (2 : Int32)) - ((V 16) 1) else (0 : Int32)))))
theorem inX5_advancesMissingIn_RX3 : ∀ w ∈ wsX30, w ∈ wsX5_advancesMissingIn := az_inr [27, 28, 29, 30, 31, 32] (by decide +kernel)
theorem inX5_advancesMissingIn_RX5 : ∀ w ∈ wsX50, w ∈ wsX5_advancesMissingIn := az_inr [16, 17, 18, 19, 20, 21, 22, 23, 24, 25, 26] (by decide +kernel)
set_option maxHeartbeats 4000000 in
set_option maxRecDepth 100000 in
theorem kX5_advancesMissingIn (l : Launch) (g : az_G) (ad : Nat → Nat) (V : az_St) (x1 : Int32) (o : Int32) (h : FX5_advancesMissingIn V x1 = some o) : az_I l yX5_advancesMissingIn wsX5_advancesMissingIn ({ frames := 2, cells := 0, slots := 0, locals := 64 } : Room) [.ref (ad 0), .int x1] g (az_cV g ad V) o (az_cV g ad V) := by
  refine az_body (cc := cX5_advancesMissingIn) (maxL := 4) (ret := (some .int)) (Qc := fun A => az_QI g (az_cV g ad V) o A) (by decide +kernel) rfl (Nat.le_of_ble_eq_true rfl) ?_
  intro p e s m args below meth c A hx hb hr hts hown hml hlocks hA hK hP hD hS ls hl
  have hl : lv_has ls 4 [(0, .ref (ad 0)), (1, .int x1)] := hl
  unfold FX5_advancesMissingIn at h
  refine lv_iload_n hx hb dX5_advancesMissingIn_0 rfl (lv_at hl 1 rfl) ?_
  refine lv_bipush (v := (16 : Int32)) hx hb dX5_advancesMissingIn_1 (by decide) ?_
  refine lv_imul hx hb dX5_advancesMissingIn_3 ?_
  refine lv_istore_n (lv' := [(2, .int (x1 * (16 : Int32))), (0, .ref (ad 0)), (1, .int x1)]) hx hb dX5_advancesMissingIn_4 rfl hl (by decide) rfl (fun ls hl => ?_)
  refine lv_aload_n hx hb dX5_advancesMissingIn_5 rfl (lv_at hl 1 rfl) ?_
  refine va_get (D := g.1) (ci := 5) (v := .ref (ad 6)) (C := RX5) (T := TX5) (N := 11) hx hb hts inX5_advancesMissingIn_RX5 hown hK hP 0 rfl rfl 1 (Nat.le_of_ble_eq_true rfl) (hts _ (List.mem_of_getElem? (i := 1) rfl)) (fun _ h9 => h9) rfl dX5_advancesMissingIn_6 ?_
  refine lv_iload_n hx hb dX5_advancesMissingIn_9 rfl (lv_at hl 0 rfl) ?_
  refine lv_iload_n hx hb dX5_advancesMissingIn_10 rfl (lv_at hl 0 rfl) ?_
  refine lv_aload_n hx hb dX5_advancesMissingIn_11 rfl (lv_at hl 1 rfl) ?_
  refine va_get (D := g.1) (ci := 5) (v := .ref (ad 1)) (C := RX5) (T := TX5) (N := 11) hx hb hts inX5_advancesMissingIn_RX5 hown hK hP 0 rfl rfl 0 (Nat.le_of_ble_eq_true rfl) (hts _ (List.mem_of_getElem? (i := 2) rfl)) (fun _ h9 => h9) rfl dX5_advancesMissingIn_12 ?_
  refine va_get (D := g.1) (ci := 3) (v := .int ((V 4) 1)) (C := RX3) (T := TX3) (N := 6) hx hb hts inX5_advancesMissingIn_RX3 hown hK hP 1 rfl rfl 5 (Nat.le_of_ble_eq_true rfl) (hts _ (List.mem_of_getElem? (i := 3) rfl)) (fun _ h9 => h9) rfl dX5_advancesMissingIn_15 ?_
  refine lv_iadd hx hb dX5_advancesMissingIn_18 ?_
  obtain ⟨o19, hc19, h⟩ := az_bnd h
  refine az_callVi (w2 := az_cV g ad V) (As := [.int (x1 * (16 : Int32)), .int ((x1 * (16 : Int32)) + ((V 4) 1))]) (rest := []) ⟨hx, hb, hml, hown, hts⟩ hl.1 (kX0_latestWaitingEpoch l g ad V (x1 * (16 : Int32)) ((x1 * (16 : Int32)) + ((V 4) 1)) o19 hc19) (cwV 2 hts gX5_advancesMissingIn_X0_latestWaitingEpoch rfl rfl rfl (by decide +kernel) ⟨Nat.le_of_ble_eq_true rfl, Nat.le_of_ble_eq_true rfl⟩) rfl hK hP hD hS hA [6, 7, 8, 9, 10, 11, 12] [0, 1, 2, 3, 4, 5, 13, 14, 15, 16, 17, 18, 19] [0, 1, 2, 3, 4, 5, 13, 14, 15, 16, 17, 18, 19, 6, 7, 8, 9, 10, 11, 12] rfl rfl rfl rfl rfl (by decide) rfl rfl rfl 0 rfl rfl rfl (Nat.le_of_ble_eq_true rfl) dX5_advancesMissingIn_19 ⟨Nat.zero_le _, Nat.zero_le _⟩ rfl (fun H locs hP hD hS => ?_)
  refine lv_istore_n (lv' := [(3, .int o19), (2, .int (x1 * (16 : Int32))), (0, .ref (ad 0)), (1, .int x1)]) hx hb dX5_advancesMissingIn_22 rfl hl (by decide) rfl (fun ls hl => ?_)
  refine lv_iload_n hx hb dX5_advancesMissingIn_23 rfl (lv_at hl 0 rfl) ?_
  refine lv_iconst (v := (-1 : Int32)) hx hb dX5_advancesMissingIn_24 (by decide) ?_
  refine lv_icmp_ne (tgt := 32) hx hb dX5_advancesMissingIn_25 (by decide) (fun c25 => ?_) (fun c25 => ?_)
  · replace h := az_neg c25 h
    refine lv_iconst (v := (0 : Int32)) hx hb dX5_advancesMissingIn_32 (by decide) ?_
    refine lv_iload_n hx hb dX5_advancesMissingIn_33 rfl (lv_at hl 0 rfl) ?_
    refine lv_iconst (v := (2 : Int32)) hx hb dX5_advancesMissingIn_34 (by decide) ?_
    refine lv_iadd hx hb dX5_advancesMissingIn_35 ?_
    refine lv_aload_n hx hb dX5_advancesMissingIn_36 rfl (lv_at hl 2 rfl) ?_
    refine va_get (D := g.1) (ci := 5) (v := .int ((V 16) 1)) (C := RX5) (T := TX5) (N := 11) hx hb hts inX5_advancesMissingIn_RX5 hown hK hP 0 rfl rfl 6 (Nat.le_of_ble_eq_true rfl) (hts _ (List.mem_of_getElem? (i := 4) rfl)) (fun _ h9 => h9) rfl dX5_advancesMissingIn_37 ?_
    refine lv_isub hx hb dX5_advancesMissingIn_40 ?_
    refine va_mmax hx hb (hml.trans hl.1.symm) hown (hts _ (List.mem_of_getElem? (i := 5) rfl)) (hts _ (List.mem_of_getElem? (i := 6) rfl)) (hts _ (List.mem_of_getElem? (i := 7) rfl)) (hts _ (List.mem_of_getElem? (i := 8) rfl)) (Nat.le_of_ble_eq_true rfl) (Nat.le_of_ble_eq_true rfl) (Nat.zero_le _) (Nat.zero_le _) dX5_advancesMissingIn_41 ?_
    have hP : va_P g.1 az_cl (az_cV g ad V) _ := hP
    have hD : va_D A (az_cV g ad V) := hD
    rw [← Option.some.inj h]
    exact az_iret hx hb hr hlocks hK hP hD hS dX5_advancesMissingIn_44
  · replace h := az_pos c25 h
    refine lv_iconst (v := (0 : Int32)) hx hb dX5_advancesMissingIn_28 (by decide) ?_
    refine lv_goto (tgt := 44) hx hb dX5_advancesMissingIn_29 (by decide) ?_
    have hP : va_P g.1 az_cl (az_cV g ad V) _ := hP
    have hD : va_D A (az_cV g ad V) := hD
    rw [← Option.some.inj h]
    exact az_iret hx hb hr hlocks hK hP hD hS dX5_advancesMissingIn_44

def FX5_regain_L16 : Nat → az_St → (Nat → Int32) → (Nat → Int32) → (Nat → Int32) → (Nat → Int32) → (Nat → Int32) → (Nat → Int32) → (Nat → Int32) → (Nat → Int32) → (Nat → Int32) → Int32 → Int32 → Option (Int32 × (Nat → Int32) × (Nat → Int32) × (Nat → Int32) × (Nat → Int32) × (Nat → Int32) × (Nat → Int32) × (Nat → Int32) × (Nat → Int32) × (Nat → Int32))
  | 0, _, _, _, _, _, _, _, _, _, _, _, _ => none
  | n + 1, V, wV0, wV1, wV2, wV5, wV6, wV7, wV8, wV9, wV10, y1, y2 => if (V 4) 0 ≤ y2 then (some (y1, wV0, wV1, wV2, wV5, wV6, wV7, wV8, wV9, wV10)) else (if az_in y2 10 = true then if wV0 y2.toNatClampNeg = (2 : Int32) then ((FX5_blocksIn (va_up (va_up (va_up (va_up (va_up (va_up (va_up (va_up (va_up V 0 wV0) 1 wV1) 2 wV2) 5 wV5) 6 wV6) 7 wV7) 8 wV8) 9 wV9) 10 wV10) y2 (4 : Int32)).bind (fun o43 => if o43 = (V 4) 1 then ((FX3_erase (va_up (va_up (va_up (va_up (va_up (va_up (va_up (va_up (va_up V 0 wV0) 1 wV1) 2 wV2) 5 wV5) 6 wV6) 7 wV7) 8 wV8) 9 wV9) 10 wV10) y2).bind (fun o61 => (FX0_erase (va_up (va_up (va_up (va_up (va_up (va_up (va_up (va_up (va_up V 0 o61.1) 1 o61.2.1) 2 o61.2.2) 5 wV5) 6 wV6) 7 wV7) 8 wV8) 9 wV9) 10 wV10) (y2 * (16 : Int32)) ((y2 * (16 : Int32)) + ((V 4) 1))).bind (fun o84 => FX5_regain_L16 n V o61.1 o61.2.1 o61.2.2 o84.1 o84.2.1 o84.2.2.1 o84.2.2.2.1 o84.2.2.2.2.1 o84.2.2.2.2.2 y1 (y2 + (1 : Int32))))) else (FX5_regain_L16 n V wV0 wV1 wV2 wV5 wV6 wV7 wV8 wV9 wV10 y1 (y2 + (1 : Int32))))) else (FX5_regain_L16 n V wV0 wV1 wV2 wV5 wV6 wV7 wV8 wV9 wV10 y1 (y2 + (1 : Int32))) else none)
theorem FX5_regain_L16_s (n : Nat) (V : az_St) (wV0 : Nat → Int32) (wV1 : Nat → Int32) (wV2 : Nat → Int32) (wV5 : Nat → Int32) (wV6 : Nat → Int32) (wV7 : Nat → Int32) (wV8 : Nat → Int32) (wV9 : Nat → Int32) (wV10 : Nat → Int32) (y1 : Int32) (y2 : Int32) : FX5_regain_L16 (n + 1) V wV0 wV1 wV2 wV5 wV6 wV7 wV8 wV9 wV10 y1 y2 = (if (V 4) 0 ≤ y2 then (some (y1, wV0, wV1, wV2, wV5, wV6, wV7, wV8, wV9, wV10)) else (if az_in y2 10 = true then if wV0 y2.toNatClampNeg = (2 : Int32) then ((FX5_blocksIn (va_up (va_up (va_up (va_up (va_up (va_up (va_up (va_up (va_up V 0 wV0) 1 wV1) 2 wV2) 5 wV5) 6 wV6) 7 wV7) 8 wV8) 9 wV9) 10 wV10) y2 (4 : Int32)).bind (fun o43 => if o43 = (V 4) 1 then ((FX3_erase (va_up (va_up (va_up (va_up (va_up (va_up (va_up (va_up (va_up V 0 wV0) 1 wV1) 2 wV2) 5 wV5) 6 wV6) 7 wV7) 8 wV8) 9 wV9) 10 wV10) y2).bind (fun o61 => (FX0_erase (va_up (va_up (va_up (va_up (va_up (va_up (va_up (va_up (va_up V 0 o61.1) 1 o61.2.1) 2 o61.2.2) 5 wV5) 6 wV6) 7 wV7) 8 wV8) 9 wV9) 10 wV10) (y2 * (16 : Int32)) ((y2 * (16 : Int32)) + ((V 4) 1))).bind (fun o84 => FX5_regain_L16 n V o61.1 o61.2.1 o61.2.2 o84.1 o84.2.1 o84.2.2.1 o84.2.2.2.1 o84.2.2.2.2.1 o84.2.2.2.2.2 y1 (y2 + (1 : Int32))))) else (FX5_regain_L16 n V wV0 wV1 wV2 wV5 wV6 wV7 wV8 wV9 wV10 y1 (y2 + (1 : Int32))))) else (FX5_regain_L16 n V wV0 wV1 wV2 wV5 wV6 wV7 wV8 wV9 wV10 y1 (y2 + (1 : Int32))) else none)) := rfl
def FX5_regain (V : az_St) : Option (Int32 × (Nat → Int32) × (Nat → Int32) × (Nat → Int32) × (Nat → Int32) × (Nat → Int32) × (Nat → Int32) × (Nat → Int32) × (Nat → Int32) × (Nat → Int32)) := (FX0_letDie V (((V 16) 1) - (2 : Int32))).bind (fun o10 => FX5_regain_L16 az_fuel V (V 0) (V 1) (V 2) o10.2.1 (V 6) (V 7) (V 8) o10.2.2 (V 10) o10.1 (0 : Int32))
theorem inX5_regain_RX3 : ∀ w ∈ wsX30, w ∈ wsX5_regain := az_inr [54, 55, 56, 57, 58, 59] (by decide +kernel)
theorem inX5_regain_RX5 : ∀ w ∈ wsX50, w ∈ wsX5_regain := az_inr [43, 44, 45, 46, 47, 48, 49, 50, 51, 52, 53] (by decide +kernel)
set_option maxHeartbeats 4000000 in
set_option maxRecDepth 100000 in
theorem kX5_regain (l : Launch) (g : az_G) (ad : Nat → Nat) (V : az_St) (o : Int32 × (Nat → Int32) × (Nat → Int32) × (Nat → Int32) × (Nat → Int32) × (Nat → Int32) × (Nat → Int32) × (Nat → Int32) × (Nat → Int32) × (Nat → Int32)) (h : FX5_regain V = some o) : az_I l yX5_regain wsX5_regain ({ frames := 2, cells := 0, slots := 0, locals := 48 } : Room) [.ref (ad 0)] g (az_cV g ad V) o.1 (az_cV g ad (va_up (va_up (va_up (va_up (va_up (va_up (va_up (va_up (va_up V 0 o.2.1) 1 o.2.2.1) 2 o.2.2.2.1) 5 o.2.2.2.2.1) 6 o.2.2.2.2.2.1) 7 o.2.2.2.2.2.2.1) 8 o.2.2.2.2.2.2.2.1) 9 o.2.2.2.2.2.2.2.2.1) 10 o.2.2.2.2.2.2.2.2.2)) := by
  refine az_body (cc := cX5_regain) (maxL := 3) (ret := (some .int)) (Qc := fun A => az_QI g (az_cV g ad (va_up (va_up (va_up (va_up (va_up (va_up (va_up (va_up (va_up V 0 o.2.1) 1 o.2.2.1) 2 o.2.2.2.1) 5 o.2.2.2.2.1) 6 o.2.2.2.2.2.1) 7 o.2.2.2.2.2.2.1) 8 o.2.2.2.2.2.2.2.1) 9 o.2.2.2.2.2.2.2.2.1) 10 o.2.2.2.2.2.2.2.2.2)) o.1 A) (by decide +kernel) rfl (Nat.le_of_ble_eq_true rfl) ?_
  intro p e s m args below meth c A hx hb hr hts hown hml hlocks hA hK hP hD hS ls hl
  have hl : lv_has ls 3 [(0, .ref (ad 0))] := hl
  unfold FX5_regain at h
  have hL16 : ∀ (n : Nat) (wV0 : Nat → Int32) (wV1 : Nat → Int32) (wV2 : Nat → Int32) (wV5 : Nat → Int32) (wV6 : Nat → Int32) (wV7 : Nat → Int32) (wV8 : Nat → Int32) (wV9 : Nat → Int32) (wV10 : Nat → Int32) (y1 : Int32) (y2 : Int32) (H : Heap) (locs : List Loc) (ls : Array Slot), FX5_regain_L16 n V wV0 wV1 wV2 wV5 wV6 wV7 wV8 wV9 wV10 y1 y2 = some o → va_P g.1 az_cl (az_cV g ad (va_up (va_up (va_up (va_up (va_up (va_up (va_up (va_up (va_up V 0 wV0) 1 wV1) 2 wV2) 5 wV5) 6 wV6) 7 wV7) 8 wV8) 9 wV9) 10 wV10)) H → va_D A (az_cV g ad (va_up (va_up (va_up (va_up (va_up (va_up (va_up (va_up (va_up V 0 wV0) 1 wV1) 2 wV2) 5 wV5) 6 wV6) 7 wV7) 8 wV8) 9 wV9) 10 wV10)) → va_S A s.heap H locs → lv_has ls 3 [(0, .ref (ad 0)), (1, .int y1), (2, .int y2)] → W p l e ({ frames := 2, cells := 0, slots := 0, locals := 48 } : Room) s m args below meth c H locs 0 0 (MQ below (az_QI g (az_cV g ad (va_up (va_up (va_up (va_up (va_up (va_up (va_up (va_up (va_up V 0 o.2.1) 1 o.2.2.1) 2 o.2.2.2.1) 5 o.2.2.2.2.1) 6 o.2.2.2.2.2.1) 7 o.2.2.2.2.2.2.1) 8 o.2.2.2.2.2.2.2.1) 9 o.2.2.2.2.2.2.2.2.1) 10 o.2.2.2.2.2.2.2.2.2)) o.1 A) args s 0 0 A) (F0 m 16 ls []) := by
    intro n
    induction n with
    | zero => intro wV0 wV1 wV2 wV5 wV6 wV7 wV8 wV9 wV10 y1 y2 H locs ls h; exact az_non h
    | succ n ih =>
      intro wV0 wV1 wV2 wV5 wV6 wV7 wV8 wV9 wV10 y1 y2 H locs ls h hP hD hS hl
      rw [FX5_regain_L16_s] at h
      refine lv_iload_n hx hb dX5_regain_16 rfl (lv_at hl 2 rfl) ?_
      refine lv_aload_n hx hb dX5_regain_17 rfl (lv_at hl 0 rfl) ?_
      refine va_get (D := g.1) (ci := 5) (v := .ref (ad 1)) (C := RX5) (T := TX5) (N := 11) hx hb hts inX5_regain_RX5 hown hK hP 0 rfl rfl 0 (Nat.le_of_ble_eq_true rfl) (hts _ (List.mem_of_getElem? (i := 3) rfl)) (fun _ h9 => h9) rfl dX5_regain_18 ?_
      refine va_get (D := g.1) (ci := 3) (v := .int ((V 4) 0)) (C := RX3) (T := TX3) (N := 6) hx hb hts inX5_regain_RX3 hown hK hP 1 rfl rfl 4 (Nat.le_of_ble_eq_true rfl) (hts _ (List.mem_of_getElem? (i := 4) rfl)) (fun _ h9 => h9) rfl dX5_regain_21 ?_
      refine lv_icmp_ge (tgt := 93) hx hb dX5_regain_24 (by decide) (fun c24 => ?_) (fun c24 => ?_)
      · replace h := az_pos c24 h
        refine lv_iload_n hx hb dX5_regain_93 rfl (lv_at hl 1 rfl) ?_
        have hP : va_P g.1 az_cl (az_cV g ad (va_up (va_up (va_up (va_up (va_up (va_up (va_up (va_up (va_up V 0 wV0) 1 wV1) 2 wV2) 5 wV5) 6 wV6) 7 wV7) 8 wV8) 9 wV9) 10 wV10)) _ := hP
        have hD : va_D A (az_cV g ad (va_up (va_up (va_up (va_up (va_up (va_up (va_up (va_up (va_up V 0 wV0) 1 wV1) 2 wV2) 5 wV5) 6 wV6) 7 wV7) 8 wV8) 9 wV9) 10 wV10)) := hD
        rw [← Option.some.inj h]
        exact az_iret hx hb hr hlocks hK hP hD hS dX5_regain_94
      · replace h := az_neg c24 h
        refine lv_aload_n hx hb dX5_regain_27 rfl (lv_at hl 0 rfl) ?_
        refine va_get (D := g.1) (ci := 5) (v := .ref (ad 1)) (C := RX5) (T := TX5) (N := 11) hx hb hts inX5_regain_RX5 hown hK hP 0 rfl rfl 0 (Nat.le_of_ble_eq_true rfl) (hts _ (List.mem_of_getElem? (i := 3) rfl)) (fun _ h9 => h9) rfl dX5_regain_28 ?_
        refine va_get (D := g.1) (ci := 3) (v := .ref (ad 2)) (C := RX3) (T := TX3) (N := 6) hx hb hts inX5_regain_RX3 hown hK hP 1 rfl rfl 0 (Nat.le_of_ble_eq_true rfl) (hts _ (List.mem_of_getElem? (i := 5) rfl)) (fun _ h9 => h9) rfl dX5_regain_31 ?_
        refine lv_iload_n hx hb dX5_regain_34 rfl (lv_at hl 2 rfl) ?_
        obtain ⟨i35, h⟩ := az_ite h
        refine va_iald (D := g.1) (f := wV0) hx hb hK hP 2 0 rfl rfl (az_vin i35) dX5_regain_35 ?_
        refine lv_iconst (v := (2 : Int32)) hx hb dX5_regain_36 (by decide) ?_
        refine lv_icmp_ne (tgt := 87) hx hb dX5_regain_37 (by decide) (fun c37 => ?_) (fun c37 => ?_)
        · replace h := az_neg c37 h
          refine lv_iinc (v := y2 + (1 : Int32)) (lv' := [(2, .int (y2 + (1 : Int32))), (0, .ref (ad 0)), (1, .int y1)]) hx hb dX5_regain_87 hl (k := 2) rfl (rfl) (by decide) rfl (fun ls hl => ?_)
          refine lv_goto (tgt := 16) hx hb dX5_regain_90 (by decide) ?_
          have hP : va_P g.1 az_cl (az_cV g ad (va_up (va_up (va_up (va_up (va_up (va_up (va_up (va_up (va_up V 0 wV0) 1 wV1) 2 wV2) 5 wV5) 6 wV6) 7 wV7) 8 wV8) 9 wV9) 10 wV10)) _ := hP
          have hD : va_D A (az_cV g ad (va_up (va_up (va_up (va_up (va_up (va_up (va_up (va_up (va_up V 0 wV0) 1 wV1) 2 wV2) 5 wV5) 6 wV6) 7 wV7) 8 wV8) 9 wV9) 10 wV10)) := hD
          exact ih wV0 wV1 wV2 wV5 wV6 wV7 wV8 wV9 wV10 y1 (y2 + (1 : Int32)) _ _ ls h hP hD hS (lv_sub hl [1, 2, 0] rfl)
        · replace h := az_pos c37 h
          refine lv_aload_n hx hb dX5_regain_40 rfl (lv_at hl 0 rfl) ?_
          refine lv_iload_n hx hb dX5_regain_41 rfl (lv_at hl 2 rfl) ?_
          refine lv_iconst (v := (4 : Int32)) hx hb dX5_regain_42 (by decide) ?_
          obtain ⟨o43, hc43, h⟩ := az_bnd h
          refine az_callVi (w2 := az_cV g ad (va_up (va_up (va_up (va_up (va_up (va_up (va_up (va_up (va_up V 0 wV0) 1 wV1) 2 wV2) 5 wV5) 6 wV6) 7 wV7) 8 wV8) 9 wV9) 10 wV10)) (As := [.int y2, .int (4 : Int32)]) (rest := []) ⟨hx, hb, hml, hown, hts⟩ hl.1 (kX5_blocksIn l g ad (va_up (va_up (va_up (va_up (va_up (va_up (va_up (va_up (va_up V 0 wV0) 1 wV1) 2 wV2) 5 wV5) 6 wV6) 7 wV7) 8 wV8) 9 wV9) 10 wV10) y2 (4 : Int32) o43 hc43) (cwV 2 hts gX5_regain_X5_blocksIn rfl rfl rfl (by decide +kernel) ⟨Nat.le_of_ble_eq_true rfl, Nat.le_of_ble_eq_true rfl⟩) rfl hK hP hD hS hA [0, 1, 2, 3, 4, 5, 6, 7, 8, 9, 10, 11, 12, 13, 14, 15, 16, 17, 18, 19] [] [0, 1, 2, 3, 4, 5, 6, 7, 8, 9, 10, 11, 12, 13, 14, 15, 16, 17, 18, 19] rfl rfl rfl rfl rfl (by decide) rfl rfl rfl 0 rfl rfl rfl (Nat.le_of_ble_eq_true rfl) dX5_regain_43 ⟨Nat.zero_le _, Nat.zero_le _⟩ rfl (fun H locs hP hD hS => ?_)
          refine lv_aload_n hx hb dX5_regain_46 rfl (lv_at hl 0 rfl) ?_
          refine va_get (D := g.1) (ci := 5) (v := .ref (ad 1)) (C := RX5) (T := TX5) (N := 11) hx hb hts inX5_regain_RX5 hown hK hP 0 rfl rfl 0 (Nat.le_of_ble_eq_true rfl) (hts _ (List.mem_of_getElem? (i := 3) rfl)) (fun _ h9 => h9) rfl dX5_regain_47 ?_
          refine va_get (D := g.1) (ci := 3) (v := .int ((V 4) 1)) (C := RX3) (T := TX3) (N := 6) hx hb hts inX5_regain_RX3 hown hK hP 1 rfl rfl 5 (Nat.le_of_ble_eq_true rfl) (hts _ (List.mem_of_getElem? (i := 6) rfl)) (fun _ h9 => h9) rfl dX5_regain_50 ?_
          refine lv_icmp_ne (tgt := 87) hx hb dX5_regain_53 (by decide) (fun c53 => ?_) (fun c53 => ?_)
          · replace h := az_neg c53 h
            refine lv_iinc (v := y2 + (1 : Int32)) (lv' := [(2, .int (y2 + (1 : Int32))), (0, .ref (ad 0)), (1, .int y1)]) hx hb dX5_regain_87 hl (k := 2) rfl (rfl) (by decide) rfl (fun ls hl => ?_)
            refine lv_goto (tgt := 16) hx hb dX5_regain_90 (by decide) ?_
            have hP : va_P g.1 az_cl (az_cV g ad (va_up (va_up (va_up (va_up (va_up (va_up (va_up (va_up (va_up V 0 wV0) 1 wV1) 2 wV2) 5 wV5) 6 wV6) 7 wV7) 8 wV8) 9 wV9) 10 wV10)) _ := hP
            have hD : va_D A (az_cV g ad (va_up (va_up (va_up (va_up (va_up (va_up (va_up (va_up (va_up V 0 wV0) 1 wV1) 2 wV2) 5 wV5) 6 wV6) 7 wV7) 8 wV8) 9 wV9) 10 wV10)) := hD
            exact ih wV0 wV1 wV2 wV5 wV6 wV7 wV8 wV9 wV10 y1 (y2 + (1 : Int32)) _ _ ls h hP hD hS (lv_sub hl [1, 2, 0] rfl)
          · replace h := az_pos c53 h
            refine lv_aload_n hx hb dX5_regain_56 rfl (lv_at hl 0 rfl) ?_
            refine va_get (D := g.1) (ci := 5) (v := .ref (ad 1)) (C := RX5) (T := TX5) (N := 11) hx hb hts inX5_regain_RX5 hown hK hP 0 rfl rfl 0 (Nat.le_of_ble_eq_true rfl) (hts _ (List.mem_of_getElem? (i := 3) rfl)) (fun _ h9 => h9) rfl dX5_regain_57 ?_
            refine lv_iload_n hx hb dX5_regain_60 rfl (lv_at hl 2 rfl) ?_
            obtain ⟨o61, hc61, h⟩ := az_bnd h
            refine az_callVv (w2 := az_cV g ad (va_up (va_up (va_up (va_up (va_up (va_up (va_up (va_up (va_up V 0 o61.1) 1 o61.2.1) 2 o61.2.2) 5 wV5) 6 wV6) 7 wV7) 8 wV8) 9 wV9) 10 wV10)) (As := [.int y2]) (rest := []) ⟨hx, hb, hml, hown, hts⟩ hl.1 (kX3_erase l g ad (va_up (va_up (va_up (va_up (va_up (va_up (va_up (va_up (va_up V 0 wV0) 1 wV1) 2 wV2) 5 wV5) 6 wV6) 7 wV7) 8 wV8) 9 wV9) 10 wV10) y2 o61 hc61) (cwV 1 hts gX5_regain_X3_erase rfl rfl rfl (by decide +kernel) ⟨Nat.le_of_ble_eq_true rfl, Nat.le_of_ble_eq_true rfl⟩) rfl hK hP hD hS hA [1, 2, 3, 4, 5] [0, 6, 7, 8, 9, 10, 11, 12, 13, 14, 15, 16, 17, 18, 19] [0, 15, 16, 17, 18, 19, 1, 2, 3, 4, 5, 6, 7, 8, 9, 10, 11, 12, 13, 14] rfl rfl rfl rfl rfl (by decide) rfl rfl rfl 0 rfl rfl rfl (Nat.le_of_ble_eq_true rfl) dX5_regain_61 ⟨Nat.zero_le _, Nat.zero_le _⟩ rfl (fun H locs hP hD hS => ?_)
            refine lv_aload_n hx hb dX5_regain_64 rfl (lv_at hl 0 rfl) ?_
            refine va_get (D := g.1) (ci := 5) (v := .ref (ad 6)) (C := RX5) (T := TX5) (N := 11) hx hb hts inX5_regain_RX5 hown hK hP 0 rfl rfl 1 (Nat.le_of_ble_eq_true rfl) (hts _ (List.mem_of_getElem? (i := 1) rfl)) (fun _ h9 => h9) rfl dX5_regain_65 ?_
            refine lv_iload_n hx hb dX5_regain_68 rfl (lv_at hl 2 rfl) ?_
            refine lv_bipush (v := (16 : Int32)) hx hb dX5_regain_69 (by decide) ?_
            refine lv_imul hx hb dX5_regain_71 ?_
            refine lv_iload_n hx hb dX5_regain_72 rfl (lv_at hl 2 rfl) ?_
            refine lv_bipush (v := (16 : Int32)) hx hb dX5_regain_73 (by decide) ?_
            refine lv_imul hx hb dX5_regain_75 ?_
            refine lv_aload_n hx hb dX5_regain_76 rfl (lv_at hl 0 rfl) ?_
            refine va_get (D := g.1) (ci := 5) (v := .ref (ad 1)) (C := RX5) (T := TX5) (N := 11) hx hb hts inX5_regain_RX5 hown hK hP 0 rfl rfl 0 (Nat.le_of_ble_eq_true rfl) (hts _ (List.mem_of_getElem? (i := 3) rfl)) (fun _ h9 => h9) rfl dX5_regain_77 ?_
            refine va_get (D := g.1) (ci := 3) (v := .int ((V 4) 1)) (C := RX3) (T := TX3) (N := 6) hx hb hts inX5_regain_RX3 hown hK hP 1 rfl rfl 5 (Nat.le_of_ble_eq_true rfl) (hts _ (List.mem_of_getElem? (i := 6) rfl)) (fun _ h9 => h9) rfl dX5_regain_80 ?_
            refine lv_iadd hx hb dX5_regain_83 ?_
            obtain ⟨o84, hc84, h⟩ := az_bnd h
            refine az_callVv (w2 := az_cV g ad (va_up (va_up (va_up (va_up (va_up (va_up (va_up (va_up (va_up V 0 o61.1) 1 o61.2.1) 2 o61.2.2) 5 o84.1) 6 o84.2.1) 7 o84.2.2.1) 8 o84.2.2.2.1) 9 o84.2.2.2.2.1) 10 o84.2.2.2.2.2)) (As := [.int (y2 * (16 : Int32)), .int ((y2 * (16 : Int32)) + ((V 4) 1))]) (rest := []) ⟨hx, hb, hml, hown, hts⟩ hl.1 (kX0_erase l g ad (va_up (va_up (va_up (va_up (va_up (va_up (va_up (va_up (va_up V 0 o61.1) 1 o61.2.1) 2 o61.2.2) 5 wV5) 6 wV6) 7 wV7) 8 wV8) 9 wV9) 10 wV10) (y2 * (16 : Int32)) ((y2 * (16 : Int32)) + ((V 4) 1)) o84 hc84) (cwV 2 hts gX5_regain_X0_erase rfl rfl rfl (by decide +kernel) ⟨Nat.le_of_ble_eq_true rfl, Nat.le_of_ble_eq_true rfl⟩) rfl hK hP hD hS hA [6, 7, 8, 9, 10, 11, 12] [0, 1, 2, 3, 4, 5, 13, 14, 15, 16, 17, 18, 19] [0, 1, 2, 3, 4, 5, 13, 14, 15, 16, 17, 18, 19, 6, 7, 8, 9, 10, 11, 12] rfl rfl rfl rfl rfl (by decide) rfl rfl rfl 0 rfl rfl rfl (Nat.le_of_ble_eq_true rfl) dX5_regain_84 ⟨Nat.zero_le _, Nat.zero_le _⟩ rfl (fun H locs hP hD hS => ?_)
            refine lv_iinc (v := y2 + (1 : Int32)) (lv' := [(2, .int (y2 + (1 : Int32))), (0, .ref (ad 0)), (1, .int y1)]) hx hb dX5_regain_87 hl (k := 2) rfl (rfl) (by decide) rfl (fun ls hl => ?_)
            refine lv_goto (tgt := 16) hx hb dX5_regain_90 (by decide) ?_
            have hP : va_P g.1 az_cl (az_cV g ad (va_up (va_up (va_up (va_up (va_up (va_up (va_up (va_up (va_up V 0 o61.1) 1 o61.2.1) 2 o61.2.2) 5 o84.1) 6 o84.2.1) 7 o84.2.2.1) 8 o84.2.2.2.1) 9 o84.2.2.2.2.1) 10 o84.2.2.2.2.2)) _ := hP
            have hD : va_D A (az_cV g ad (va_up (va_up (va_up (va_up (va_up (va_up (va_up (va_up (va_up V 0 o61.1) 1 o61.2.1) 2 o61.2.2) 5 o84.1) 6 o84.2.1) 7 o84.2.2.1) 8 o84.2.2.2.1) 9 o84.2.2.2.2.1) 10 o84.2.2.2.2.2)) := hD
            exact ih o61.1 o61.2.1 o61.2.2 o84.1 o84.2.1 o84.2.2.1 o84.2.2.2.1 o84.2.2.2.2.1 o84.2.2.2.2.2 y1 (y2 + (1 : Int32)) _ _ ls h hP hD hS (lv_sub hl [1, 2, 0] rfl)
  refine lv_aload_n hx hb dX5_regain_0 rfl (lv_at hl 0 rfl) ?_
  refine va_get (D := g.1) (ci := 5) (v := .ref (ad 6)) (C := RX5) (T := TX5) (N := 11) hx hb hts inX5_regain_RX5 hown hK hP 0 rfl rfl 1 (Nat.le_of_ble_eq_true rfl) (hts _ (List.mem_of_getElem? (i := 1) rfl)) (fun _ h9 => h9) rfl dX5_regain_1 ?_
  refine lv_aload_n hx hb dX5_regain_4 rfl (lv_at hl 0 rfl) ?_
  refine va_get (D := g.1) (ci := 5) (v := .int ((V 16) 1)) (C := RX5) (T := TX5) (N := 11) hx hb hts inX5_regain_RX5 hown hK hP 0 rfl rfl 6 (Nat.le_of_ble_eq_true rfl) (hts _ (List.mem_of_getElem? (i := 2) rfl)) (fun _ h9 => h9) rfl dX5_regain_5 ?_
  refine lv_iconst (v := (2 : Int32)) hx hb dX5_regain_8 (by decide) ?_
  refine lv_isub hx hb dX5_regain_9 ?_
  obtain ⟨o10, hc10, h⟩ := az_bnd h
  refine az_callVi (w2 := az_cV g ad (va_up (va_up V 5 o10.2.1) 9 o10.2.2)) (As := [.int (((V 16) 1) - (2 : Int32))]) (rest := []) ⟨hx, hb, hml, hown, hts⟩ hl.1 (kX0_letDie l g ad V (((V 16) 1) - (2 : Int32)) o10 hc10) (cwV 1 hts gX5_regain_X0_letDie rfl rfl rfl (by decide +kernel) ⟨Nat.le_of_ble_eq_true rfl, Nat.le_of_ble_eq_true rfl⟩) rfl hK hP hD hS hA [6, 7, 8, 9, 10, 11, 12] [0, 1, 2, 3, 4, 5, 13, 14, 15, 16, 17, 18, 19] [0, 1, 2, 3, 4, 5, 13, 14, 15, 16, 17, 18, 19, 6, 7, 8, 9, 10, 11, 12] rfl rfl rfl rfl rfl (by decide) rfl rfl rfl 0 rfl rfl rfl (Nat.le_of_ble_eq_true rfl) dX5_regain_10 ⟨Nat.zero_le _, Nat.zero_le _⟩ rfl (fun H locs hP hD hS => ?_)
  refine lv_istore_n (lv' := [(1, .int o10.1), (0, .ref (ad 0))]) hx hb dX5_regain_13 rfl hl (by decide) rfl (fun ls hl => ?_)
  refine lv_iconst (v := (0 : Int32)) hx hb dX5_regain_14 (by decide) ?_
  refine lv_istore_n (lv' := [(2, .int (0 : Int32)), (1, .int o10.1), (0, .ref (ad 0))]) hx hb dX5_regain_15 rfl hl (by decide) rfl (fun ls hl => ?_)
  have hP : va_P g.1 az_cl (az_cV g ad (va_up (va_up (va_up (va_up (va_up (va_up (va_up (va_up (va_up V 0 (V 0)) 1 (V 1)) 2 (V 2)) 5 o10.2.1) 6 (V 6)) 7 (V 7)) 8 (V 8)) 9 o10.2.2) 10 (V 10))) _ := hP
  have hD : va_D A (az_cV g ad (va_up (va_up (va_up (va_up (va_up (va_up (va_up (va_up (va_up V 0 (V 0)) 1 (V 1)) 2 (V 2)) 5 o10.2.1) 6 (V 6)) 7 (V 7)) 8 (V 8)) 9 o10.2.2) 10 (V 10))) := hD
  exact hL16 az_fuel (V 0) (V 1) (V 2) o10.2.1 (V 6) (V 7) (V 8) o10.2.2 (V 10) o10.1 (0 : Int32) _ _ ls h hP hD hS (lv_sub hl [2, 1, 0] rfl)

def FX5_move (V : az_St) (x1 : Int32) : Option ((Nat → Int32) × (Nat → Int32) × (Nat → Int32) × (Nat → Int32) × (Nat → Int32) × (Nat → Int32) × (Nat → Int32) × (Nat → Int32) × (Nat → Int32) × (Nat → Int32)) := (FX3_appendAt V (1 : Int32)).bind (fun o5 => if o5.1 = (-1 : Int32) then (some (o5.2.1, o5.2.2.1, o5.2.2.2, (V 5), (V 6), (V 7), (V 8), (V 9), (V 14), (V 15))) else (if az_in x1 160 = true then (FX0_fill (va_up (va_up (va_up V 0 o5.2.1) 2 o5.2.2.1) 3 o5.2.2.2) o5.1 ((V 6) x1.toNatClampNeg) ((V 7) x1.toNatClampNeg) ((V 8) x1.toNatClampNeg)).bind (fun o49 => if az_in o5.1 160 = true then if (upd (V 5) o5.1.toNatClampNeg ((V 5) x1.toNatClampNeg)) x1.toNatClampNeg = (1 : Int32) then (if az_in ((V 6) x1.toNatClampNeg) 24 = true then (FX4_exchange (va_up (va_up (va_up (va_up (va_up (va_up (va_up (va_up V 0 o5.2.1) 2 o5.2.2.1) 3 o5.2.2.2) 5 (upd (V 5) o5.1.toNatClampNeg ((V 5) x1.toNatClampNeg))) 6 o49.1) 7 o49.2.1) 8 o49.2.2) 15 (upd (V 15) ((V 6) x1.toNatClampNeg).toNatClampNeg o5.1)) ((V 6) x1.toNatClampNeg) x1 o5.1).bind (fun o97 => (FX0_beginToWait (va_up (va_up (va_up (va_up (va_up (va_up (va_up (va_up (va_up V 0 o5.2.1) 2 o5.2.2.1) 3 o5.2.2.2) 5 (upd (V 5) o5.1.toNatClampNeg ((V 5) x1.toNatClampNeg))) 6 o49.1) 7 o49.2.1) 8 o49.2.2) 14 o97) 15 (upd (V 15) ((V 6) x1.toNatClampNeg).toNatClampNeg o5.1)) x1 ((V 16) 1)).bind (fun o109 => some (o5.2.1, o5.2.2.1, o5.2.2.2, o109.1, o49.1, o49.2.1, o49.2.2, o109.2, o97, upd (V 15) ((V 6) x1.toNatClampNeg).toNatClampNeg o5.1))) else none) else ((FX4_exchange (va_up (va_up (va_up (va_up (va_up (va_up (va_up V 0 o5.2.1) 2 o5.2.2.1) 3 o5.2.2.2) 5 (upd (V 5) o5.1.toNatClampNeg ((V 5) x1.toNatClampNeg))) 6 o49.1) 7 o49.2.1) 8 o49.2.2) ((V 6) x1.toNatClampNeg) x1 o5.1).bind (fun o97 => (FX0_beginToWait (va_up (va_up (va_up (va_up (va_up (va_up (va_up (va_up V 0 o5.2.1) 2 o5.2.2.1) 3 o5.2.2.2) 5 (upd (V 5) o5.1.toNatClampNeg ((V 5) x1.toNatClampNeg))) 6 o49.1) 7 o49.2.1) 8 o49.2.2) 14 o97) x1 ((V 16) 1)).bind (fun o109 => some (o5.2.1, o5.2.2.1, o5.2.2.2, o109.1, o49.1, o49.2.1, o49.2.2, o109.2, o97, (V 15))))) else none) else none))
theorem inX5_move_RX0 : ∀ w ∈ wsX00, w ∈ wsX5_move := az_inr [64, 65, 66, 67, 68, 69] (by decide +kernel)
theorem inX5_move_RX5 : ∀ w ∈ wsX50, w ∈ wsX5_move := az_inr [53, 54, 55, 56, 57, 58, 59, 60, 61, 62, 63] (by decide +kernel)
set_option maxHeartbeats 4000000 in
set_option maxRecDepth 100000 in
theorem kX5_move (l : Launch) (g : az_G) (ad : Nat → Nat) (V : az_St) (x1 : Int32) (o : (Nat → Int32) × (Nat → Int32) × (Nat → Int32) × (Nat → Int32) × (Nat → Int32) × (Nat → Int32) × (Nat → Int32) × (Nat → Int32) × (Nat → Int32) × (Nat → Int32)) (h : FX5_move V x1 = some o) : az_V l yX5_move wsX5_move ({ frames := 3, cells := 0, slots := 0, locals := 69 } : Room) [.ref (ad 0), .int x1] g (az_cV g ad V) (az_cV g ad (va_up (va_up (va_up (va_up (va_up (va_up (va_up (va_up (va_up (va_up V 0 o.1) 2 o.2.1) 3 o.2.2.1) 5 o.2.2.2.1) 6 o.2.2.2.2.1) 7 o.2.2.2.2.2.1) 8 o.2.2.2.2.2.2.1) 9 o.2.2.2.2.2.2.2.1) 14 o.2.2.2.2.2.2.2.2.1) 15 o.2.2.2.2.2.2.2.2.2)) := by
  refine az_body (cc := cX5_move) (maxL := 4) (ret := none) (Qc := fun A => az_QV g (az_cV g ad (va_up (va_up (va_up (va_up (va_up (va_up (va_up (va_up (va_up (va_up V 0 o.1) 2 o.2.1) 3 o.2.2.1) 5 o.2.2.2.1) 6 o.2.2.2.2.1) 7 o.2.2.2.2.2.1) 8 o.2.2.2.2.2.2.1) 9 o.2.2.2.2.2.2.2.1) 14 o.2.2.2.2.2.2.2.2.1) 15 o.2.2.2.2.2.2.2.2.2)) A) (by decide +kernel) rfl (Nat.le_of_ble_eq_true rfl) ?_
  intro p e s m args below meth c A hx hb hr hts hown hml hlocks hA hK hP hD hS ls hl
  have hl : lv_has ls 4 [(0, .ref (ad 0)), (1, .int x1)] := hl
  unfold FX5_move at h
  refine lv_aload_n hx hb dX5_move_0 rfl (lv_at hl 0 rfl) ?_
  refine va_get (D := g.1) (ci := 5) (v := .ref (ad 1)) (C := RX5) (T := TX5) (N := 11) hx hb hts inX5_move_RX5 hown hK hP 0 rfl rfl 0 (Nat.le_of_ble_eq_true rfl) (hts _ (List.mem_of_getElem? (i := 1) rfl)) (fun _ h9 => h9) rfl dX5_move_1 ?_
  refine lv_iconst (v := (1 : Int32)) hx hb dX5_move_4 (by decide) ?_
  obtain ⟨o5, hc5, h⟩ := az_bnd h
  refine az_callVi (w2 := az_cV g ad (va_up (va_up (va_up V 0 o5.2.1) 2 o5.2.2.1) 3 o5.2.2.2)) (As := [.int (1 : Int32)]) (rest := []) ⟨hx, hb, hml, hown, hts⟩ hl.1 (kX3_appendAt l g ad V (1 : Int32) o5 hc5) (cwV 1 hts gX5_move_X3_appendAt rfl rfl rfl (by decide +kernel) ⟨Nat.le_of_ble_eq_true rfl, Nat.le_of_ble_eq_true rfl⟩) rfl hK hP hD hS hA [1, 2, 3, 4, 5] [0, 6, 7, 8, 9, 10, 11, 12, 13, 14, 15, 16, 17, 18, 19] [0, 15, 16, 17, 18, 19, 1, 2, 3, 4, 5, 6, 7, 8, 9, 10, 11, 12, 13, 14] rfl rfl rfl rfl rfl (by decide) rfl rfl rfl 0 rfl rfl rfl (Nat.le_of_ble_eq_true rfl) dX5_move_5 ⟨Nat.zero_le _, Nat.zero_le _⟩ rfl (fun H locs hP hD hS => ?_)
  refine lv_istore_n (lv' := [(2, .int o5.1), (0, .ref (ad 0)), (1, .int x1)]) hx hb dX5_move_8 rfl hl (by decide) rfl (fun ls hl => ?_)
  refine lv_iload_n hx hb dX5_move_9 rfl (lv_at hl 0 rfl) ?_
  refine lv_iconst (v := (-1 : Int32)) hx hb dX5_move_10 (by decide) ?_
  refine lv_icmp_ne (tgt := 15) hx hb dX5_move_11 (by decide) (fun c11 => ?_) (fun c11 => ?_)
  · replace h := az_neg c11 h
    refine lv_aload_n hx hb dX5_move_15 rfl (lv_at hl 1 rfl) ?_
    refine va_get (D := g.1) (ci := 5) (v := .ref (ad 6)) (C := RX5) (T := TX5) (N := 11) hx hb hts inX5_move_RX5 hown hK hP 0 rfl rfl 1 (Nat.le_of_ble_eq_true rfl) (hts _ (List.mem_of_getElem? (i := 2) rfl)) (fun _ h9 => h9) rfl dX5_move_16 ?_
    refine va_get (D := g.1) (ci := 0) (v := .ref (ad 8)) (C := RX0) (T := TX0) (N := 6) hx hb hts inX5_move_RX0 hown hK hP 6 rfl rfl 1 (Nat.le_of_ble_eq_true rfl) (hts _ (List.mem_of_getElem? (i := 3) rfl)) (fun _ h9 => h9) rfl dX5_move_19 ?_
    refine lv_iload_n hx hb dX5_move_22 rfl (lv_at hl 2 rfl) ?_
    obtain ⟨i23, h⟩ := az_ite h
    refine va_iald (D := g.1) (f := (V 6)) hx hb hK hP 8 0 rfl rfl (az_vin i23) dX5_move_23 ?_
    refine lv_istore_n (lv' := [(3, .int ((V 6) x1.toNatClampNeg)), (2, .int o5.1), (0, .ref (ad 0)), (1, .int x1)]) hx hb dX5_move_24 rfl hl (by decide) rfl (fun ls hl => ?_)
    refine lv_aload_n hx hb dX5_move_25 rfl (lv_at hl 2 rfl) ?_
    refine va_get (D := g.1) (ci := 5) (v := .ref (ad 6)) (C := RX5) (T := TX5) (N := 11) hx hb hts inX5_move_RX5 hown hK hP 0 rfl rfl 1 (Nat.le_of_ble_eq_true rfl) (hts _ (List.mem_of_getElem? (i := 2) rfl)) (fun _ h9 => h9) rfl dX5_move_26 ?_
    refine lv_iload_n hx hb dX5_move_29 rfl (lv_at hl 1 rfl) ?_
    refine lv_iload_n hx hb dX5_move_30 rfl (lv_at hl 0 rfl) ?_
    refine lv_aload_n hx hb dX5_move_31 rfl (lv_at hl 2 rfl) ?_
    refine va_get (D := g.1) (ci := 5) (v := .ref (ad 6)) (C := RX5) (T := TX5) (N := 11) hx hb hts inX5_move_RX5 hown hK hP 0 rfl rfl 1 (Nat.le_of_ble_eq_true rfl) (hts _ (List.mem_of_getElem? (i := 2) rfl)) (fun _ h9 => h9) rfl dX5_move_32 ?_
    refine va_get (D := g.1) (ci := 0) (v := .ref (ad 9)) (C := RX0) (T := TX0) (N := 6) hx hb hts inX5_move_RX0 hown hK hP 6 rfl rfl 2 (Nat.le_of_ble_eq_true rfl) (hts _ (List.mem_of_getElem? (i := 4) rfl)) (fun _ h9 => h9) rfl dX5_move_35 ?_
    refine lv_iload_n hx hb dX5_move_38 rfl (lv_at hl 3 rfl) ?_
    refine va_iald (D := g.1) (f := (V 7)) hx hb hK hP 9 0 rfl rfl (az_vin i23) dX5_move_39 ?_
    refine lv_aload_n hx hb dX5_move_40 rfl (lv_at hl 2 rfl) ?_
    refine va_get (D := g.1) (ci := 5) (v := .ref (ad 6)) (C := RX5) (T := TX5) (N := 11) hx hb hts inX5_move_RX5 hown hK hP 0 rfl rfl 1 (Nat.le_of_ble_eq_true rfl) (hts _ (List.mem_of_getElem? (i := 2) rfl)) (fun _ h9 => h9) rfl dX5_move_41 ?_
    refine va_get (D := g.1) (ci := 0) (v := .ref (ad 10)) (C := RX0) (T := TX0) (N := 6) hx hb hts inX5_move_RX0 hown hK hP 6 rfl rfl 3 (Nat.le_of_ble_eq_true rfl) (hts _ (List.mem_of_getElem? (i := 5) rfl)) (fun _ h9 => h9) rfl dX5_move_44 ?_
    refine lv_iload_n hx hb dX5_move_47 rfl (lv_at hl 3 rfl) ?_
    refine va_iald (D := g.1) (f := (V 8)) hx hb hK hP 10 0 rfl rfl (az_vin i23) dX5_move_48 ?_
    obtain ⟨o49, hc49, h⟩ := az_bnd h
    refine az_callVv (w2 := az_cV g ad (va_up (va_up (va_up (va_up (va_up (va_up V 0 o5.2.1) 2 o5.2.2.1) 3 o5.2.2.2) 6 o49.1) 7 o49.2.1) 8 o49.2.2)) (As := [.int o5.1, .int ((V 6) x1.toNatClampNeg), .int ((V 7) x1.toNatClampNeg), .int ((V 8) x1.toNatClampNeg)]) (rest := []) ⟨hx, hb, hml, hown, hts⟩ hl.1 (kX0_fill l g ad (va_up (va_up (va_up V 0 o5.2.1) 2 o5.2.2.1) 3 o5.2.2.2) o5.1 ((V 6) x1.toNatClampNeg) ((V 7) x1.toNatClampNeg) ((V 8) x1.toNatClampNeg) o49 hc49) (cwV 4 hts gX5_move_X0_fill rfl rfl rfl (by decide +kernel) ⟨Nat.le_of_ble_eq_true rfl, Nat.le_of_ble_eq_true rfl⟩) rfl hK hP hD hS hA [6, 7, 8, 9, 10, 11, 12] [0, 1, 2, 3, 4, 5, 13, 14, 15, 16, 17, 18, 19] [0, 1, 2, 3, 4, 5, 13, 14, 15, 16, 17, 18, 19, 6, 7, 8, 9, 10, 11, 12] rfl rfl rfl rfl rfl (by decide) rfl rfl rfl 0 rfl rfl rfl (Nat.le_of_ble_eq_true rfl) dX5_move_49 ⟨Nat.zero_le _, Nat.zero_le _⟩ rfl (fun H locs hP hD hS => ?_)
    refine lv_aload_n hx hb dX5_move_52 rfl (lv_at hl 2 rfl) ?_
    refine va_get (D := g.1) (ci := 5) (v := .ref (ad 6)) (C := RX5) (T := TX5) (N := 11) hx hb hts inX5_move_RX5 hown hK hP 0 rfl rfl 1 (Nat.le_of_ble_eq_true rfl) (hts _ (List.mem_of_getElem? (i := 2) rfl)) (fun _ h9 => h9) rfl dX5_move_53 ?_
    refine va_get (D := g.1) (ci := 0) (v := .ref (ad 7)) (C := RX0) (T := TX0) (N := 6) hx hb hts inX5_move_RX0 hown hK hP 6 rfl rfl 0 (Nat.le_of_ble_eq_true rfl) (hts _ (List.mem_of_getElem? (i := 6) rfl)) (fun _ h9 => h9) rfl dX5_move_56 ?_
    refine lv_iload_n hx hb dX5_move_59 rfl (lv_at hl 1 rfl) ?_
    refine lv_aload_n hx hb dX5_move_60 rfl (lv_at hl 2 rfl) ?_
    refine va_get (D := g.1) (ci := 5) (v := .ref (ad 6)) (C := RX5) (T := TX5) (N := 11) hx hb hts inX5_move_RX5 hown hK hP 0 rfl rfl 1 (Nat.le_of_ble_eq_true rfl) (hts _ (List.mem_of_getElem? (i := 2) rfl)) (fun _ h9 => h9) rfl dX5_move_61 ?_
    refine va_get (D := g.1) (ci := 0) (v := .ref (ad 7)) (C := RX0) (T := TX0) (N := 6) hx hb hts inX5_move_RX0 hown hK hP 6 rfl rfl 0 (Nat.le_of_ble_eq_true rfl) (hts _ (List.mem_of_getElem? (i := 6) rfl)) (fun _ h9 => h9) rfl dX5_move_64 ?_
    refine lv_iload_n hx hb dX5_move_67 rfl (lv_at hl 3 rfl) ?_
    refine va_iald (D := g.1) (f := (V 5)) hx hb hK hP 7 0 rfl rfl (az_vin i23) dX5_move_68 ?_
    obtain ⟨i69, h⟩ := az_ite h
    refine va_iast (D := g.1) (f := (V 5)) hx hb hK hP hD hS 7 0 rfl rfl (az_vin i69) dX5_move_69 (fun H locs hP hD hS => ?_)
    have hP : va_P g.1 az_cl (az_cV g ad (va_up (va_up (va_up (va_up (va_up (va_up (va_up V 0 o5.2.1) 2 o5.2.2.1) 3 o5.2.2.2) 5 (upd (V 5) o5.1.toNatClampNeg ((V 5) x1.toNatClampNeg))) 6 o49.1) 7 o49.2.1) 8 o49.2.2)) _ := hP
    have hD : va_D A (az_cV g ad (va_up (va_up (va_up (va_up (va_up (va_up (va_up V 0 o5.2.1) 2 o5.2.2.1) 3 o5.2.2.2) 5 (upd (V 5) o5.1.toNatClampNeg ((V 5) x1.toNatClampNeg))) 6 o49.1) 7 o49.2.1) 8 o49.2.2)) := hD
    refine lv_aload_n hx hb dX5_move_70 rfl (lv_at hl 2 rfl) ?_
    refine va_get (D := g.1) (ci := 5) (v := .ref (ad 6)) (C := RX5) (T := TX5) (N := 11) hx hb hts inX5_move_RX5 hown hK hP 0 rfl rfl 1 (Nat.le_of_ble_eq_true rfl) (hts _ (List.mem_of_getElem? (i := 2) rfl)) (fun _ h9 => h9) rfl dX5_move_71 ?_
    refine va_get (D := g.1) (ci := 0) (v := .ref (ad 7)) (C := RX0) (T := TX0) (N := 6) hx hb hts inX5_move_RX0 hown hK hP 6 rfl rfl 0 (Nat.le_of_ble_eq_true rfl) (hts _ (List.mem_of_getElem? (i := 6) rfl)) (fun _ h9 => h9) rfl dX5_move_74 ?_
    refine lv_iload_n hx hb dX5_move_77 rfl (lv_at hl 3 rfl) ?_
    refine va_iald (D := g.1) (f := upd (V 5) o5.1.toNatClampNeg ((V 5) x1.toNatClampNeg)) hx hb hK hP 7 0 rfl rfl (az_vin i23) dX5_move_78 ?_
    refine lv_iconst (v := (1 : Int32)) hx hb dX5_move_79 (by decide) ?_
    refine lv_icmp_ne (tgt := 90) hx hb dX5_move_80 (by decide) (fun c80 => ?_) (fun c80 => ?_)
    · replace h := az_neg c80 h
      refine lv_aload_n hx hb dX5_move_90 rfl (lv_at hl 2 rfl) ?_
      refine va_get (D := g.1) (ci := 5) (v := .ref (ad 16)) (C := RX5) (T := TX5) (N := 11) hx hb hts inX5_move_RX5 hown hK hP 0 rfl rfl 3 (Nat.le_of_ble_eq_true rfl) (hts _ (List.mem_of_getElem? (i := 8) rfl)) (fun _ h9 => h9) rfl dX5_move_91 ?_
      refine lv_iload_n hx hb dX5_move_94 rfl (lv_at hl 0 rfl) ?_
      refine lv_iload_n hx hb dX5_move_95 rfl (lv_at hl 3 rfl) ?_
      refine lv_iload_n hx hb dX5_move_96 rfl (lv_at hl 1 rfl) ?_
      obtain ⟨o97, hc97, h⟩ := az_bnd h
      refine az_callVv (w2 := az_cV g ad (va_up (va_up (va_up (va_up (va_up (va_up (va_up (va_up V 0 o5.2.1) 2 o5.2.2.1) 3 o5.2.2.2) 5 (upd (V 5) o5.1.toNatClampNeg ((V 5) x1.toNatClampNeg))) 6 o49.1) 7 o49.2.1) 8 o49.2.2) 14 o97)) (As := [.int ((V 6) x1.toNatClampNeg), .int x1, .int o5.1]) (rest := []) ⟨hx, hb, hml, hown, hts⟩ hl.1 (kX4_exchange l g ad (va_up (va_up (va_up (va_up (va_up (va_up (va_up V 0 o5.2.1) 2 o5.2.2.1) 3 o5.2.2.2) 5 (upd (V 5) o5.1.toNatClampNeg ((V 5) x1.toNatClampNeg))) 6 o49.1) 7 o49.2.1) 8 o49.2.2) ((V 6) x1.toNatClampNeg) x1 o5.1 o97 hc97) (cwV 3 hts gX5_move_X4_exchange rfl rfl rfl (by decide +kernel) ⟨Nat.le_of_ble_eq_true rfl, Nat.le_of_ble_eq_true rfl⟩) rfl hK hP hD hS hA [16, 17, 18] [0, 1, 2, 3, 4, 5, 6, 7, 8, 9, 10, 11, 12, 13, 14, 15, 19] [0, 1, 2, 3, 4, 5, 6, 7, 8, 9, 10, 11, 12, 13, 14, 15, 17, 18, 19, 16] rfl rfl rfl rfl rfl (by decide) rfl rfl rfl 0 rfl rfl rfl (Nat.le_of_ble_eq_true rfl) dX5_move_97 ⟨Nat.zero_le _, Nat.zero_le _⟩ rfl (fun H locs hP hD hS => ?_)
      refine lv_aload_n hx hb dX5_move_100 rfl (lv_at hl 2 rfl) ?_
      refine va_get (D := g.1) (ci := 5) (v := .ref (ad 6)) (C := RX5) (T := TX5) (N := 11) hx hb hts inX5_move_RX5 hown hK hP 0 rfl rfl 1 (Nat.le_of_ble_eq_true rfl) (hts _ (List.mem_of_getElem? (i := 2) rfl)) (fun _ h9 => h9) rfl dX5_move_101 ?_
      refine lv_iload_n hx hb dX5_move_104 rfl (lv_at hl 3 rfl) ?_
      refine lv_aload_n hx hb dX5_move_105 rfl (lv_at hl 2 rfl) ?_
      refine va_get (D := g.1) (ci := 5) (v := .int ((V 16) 1)) (C := RX5) (T := TX5) (N := 11) hx hb hts inX5_move_RX5 hown hK hP 0 rfl rfl 6 (Nat.le_of_ble_eq_true rfl) (hts _ (List.mem_of_getElem? (i := 9) rfl)) (fun _ h9 => h9) rfl dX5_move_106 ?_
      obtain ⟨o109, hc109, h⟩ := az_bnd h
      refine az_callVv (w2 := az_cV g ad (va_up (va_up (va_up (va_up (va_up (va_up (va_up (va_up (va_up V 0 o5.2.1) 2 o5.2.2.1) 3 o5.2.2.2) 5 o109.1) 6 o49.1) 7 o49.2.1) 8 o49.2.2) 9 o109.2) 14 o97)) (As := [.int x1, .int ((V 16) 1)]) (rest := []) ⟨hx, hb, hml, hown, hts⟩ hl.1 (kX0_beginToWait l g ad (va_up (va_up (va_up (va_up (va_up (va_up (va_up (va_up V 0 o5.2.1) 2 o5.2.2.1) 3 o5.2.2.2) 5 (upd (V 5) o5.1.toNatClampNeg ((V 5) x1.toNatClampNeg))) 6 o49.1) 7 o49.2.1) 8 o49.2.2) 14 o97) x1 ((V 16) 1) o109 hc109) (cwV 2 hts gX5_move_X0_beginToWait rfl rfl rfl (by decide +kernel) ⟨Nat.le_of_ble_eq_true rfl, Nat.le_of_ble_eq_true rfl⟩) rfl hK hP hD hS hA [6, 7, 8, 9, 10, 11, 12] [0, 1, 2, 3, 4, 5, 13, 14, 15, 16, 17, 18, 19] [0, 1, 2, 3, 4, 5, 13, 14, 15, 16, 17, 18, 19, 6, 7, 8, 9, 10, 11, 12] rfl rfl rfl rfl rfl (by decide) rfl rfl rfl 0 rfl rfl rfl (Nat.le_of_ble_eq_true rfl) dX5_move_109 ⟨Nat.zero_le _, Nat.zero_le _⟩ rfl (fun H locs hP hD hS => ?_)
      have hP : va_P g.1 az_cl (az_cV g ad (va_up (va_up (va_up (va_up (va_up (va_up (va_up (va_up (va_up (va_up V 0 o5.2.1) 2 o5.2.2.1) 3 o5.2.2.2) 5 o109.1) 6 o49.1) 7 o49.2.1) 8 o49.2.2) 9 o109.2) 14 o97) 15 (V 15))) _ := hP
      have hD : va_D A (az_cV g ad (va_up (va_up (va_up (va_up (va_up (va_up (va_up (va_up (va_up (va_up V 0 o5.2.1) 2 o5.2.2.1) 3 o5.2.2.2) 5 o109.1) 6 o49.1) 7 o49.2.1) 8 o49.2.2) 9 o109.2) 14 o97) 15 (V 15))) := hD
      rw [← Option.some.inj h]
      exact az_vret hx hb hr hlocks hK hP hD hS dX5_move_112
    · replace h := az_pos c80 h
      refine lv_aload_n hx hb dX5_move_83 rfl (lv_at hl 2 rfl) ?_
      refine va_get (D := g.1) (ci := 5) (v := .ref (ad 19)) (C := RX5) (T := TX5) (N := 11) hx hb hts inX5_move_RX5 hown hK hP 0 rfl rfl 4 (Nat.le_of_ble_eq_true rfl) (hts _ (List.mem_of_getElem? (i := 7) rfl)) (fun _ h9 => h9) rfl dX5_move_84 ?_
      refine lv_iload_n hx hb dX5_move_87 rfl (lv_at hl 0 rfl) ?_
      refine lv_iload_n hx hb dX5_move_88 rfl (lv_at hl 1 rfl) ?_
      obtain ⟨i89, h⟩ := az_ite h
      refine va_iast (D := g.1) (f := (V 15)) hx hb hK hP hD hS 19 0 rfl rfl (az_vin i89) dX5_move_89 (fun H locs hP hD hS => ?_)
      have hP : va_P g.1 az_cl (az_cV g ad (va_up (va_up (va_up (va_up (va_up (va_up (va_up (va_up V 0 o5.2.1) 2 o5.2.2.1) 3 o5.2.2.2) 5 (upd (V 5) o5.1.toNatClampNeg ((V 5) x1.toNatClampNeg))) 6 o49.1) 7 o49.2.1) 8 o49.2.2) 15 (upd (V 15) ((V 6) x1.toNatClampNeg).toNatClampNeg o5.1))) _ := hP
      have hD : va_D A (az_cV g ad (va_up (va_up (va_up (va_up (va_up (va_up (va_up (va_up V 0 o5.2.1) 2 o5.2.2.1) 3 o5.2.2.2) 5 (upd (V 5) o5.1.toNatClampNeg ((V 5) x1.toNatClampNeg))) 6 o49.1) 7 o49.2.1) 8 o49.2.2) 15 (upd (V 15) ((V 6) x1.toNatClampNeg).toNatClampNeg o5.1))) := hD
      refine lv_aload_n hx hb dX5_move_90 rfl (lv_at hl 2 rfl) ?_
      refine va_get (D := g.1) (ci := 5) (v := .ref (ad 16)) (C := RX5) (T := TX5) (N := 11) hx hb hts inX5_move_RX5 hown hK hP 0 rfl rfl 3 (Nat.le_of_ble_eq_true rfl) (hts _ (List.mem_of_getElem? (i := 8) rfl)) (fun _ h9 => h9) rfl dX5_move_91 ?_
      refine lv_iload_n hx hb dX5_move_94 rfl (lv_at hl 0 rfl) ?_
      refine lv_iload_n hx hb dX5_move_95 rfl (lv_at hl 3 rfl) ?_
      refine lv_iload_n hx hb dX5_move_96 rfl (lv_at hl 1 rfl) ?_
      obtain ⟨o97, hc97, h⟩ := az_bnd h
      refine az_callVv (w2 := az_cV g ad (va_up (va_up (va_up (va_up (va_up (va_up (va_up (va_up (va_up V 0 o5.2.1) 2 o5.2.2.1) 3 o5.2.2.2) 5 (upd (V 5) o5.1.toNatClampNeg ((V 5) x1.toNatClampNeg))) 6 o49.1) 7 o49.2.1) 8 o49.2.2) 14 o97) 15 (upd (V 15) ((V 6) x1.toNatClampNeg).toNatClampNeg o5.1))) (As := [.int ((V 6) x1.toNatClampNeg), .int x1, .int o5.1]) (rest := []) ⟨hx, hb, hml, hown, hts⟩ hl.1 (kX4_exchange l g ad (va_up (va_up (va_up (va_up (va_up (va_up (va_up (va_up V 0 o5.2.1) 2 o5.2.2.1) 3 o5.2.2.2) 5 (upd (V 5) o5.1.toNatClampNeg ((V 5) x1.toNatClampNeg))) 6 o49.1) 7 o49.2.1) 8 o49.2.2) 15 (upd (V 15) ((V 6) x1.toNatClampNeg).toNatClampNeg o5.1)) ((V 6) x1.toNatClampNeg) x1 o5.1 o97 hc97) (cwV 3 hts gX5_move_X4_exchange rfl rfl rfl (by decide +kernel) ⟨Nat.le_of_ble_eq_true rfl, Nat.le_of_ble_eq_true rfl⟩) rfl hK hP hD hS hA [16, 17, 18] [0, 1, 2, 3, 4, 5, 6, 7, 8, 9, 10, 11, 12, 13, 14, 15, 19] [0, 1, 2, 3, 4, 5, 6, 7, 8, 9, 10, 11, 12, 13, 14, 15, 17, 18, 19, 16] rfl rfl rfl rfl rfl (by decide) rfl rfl rfl 0 rfl rfl rfl (Nat.le_of_ble_eq_true rfl) dX5_move_97 ⟨Nat.zero_le _, Nat.zero_le _⟩ rfl (fun H locs hP hD hS => ?_)
      refine lv_aload_n hx hb dX5_move_100 rfl (lv_at hl 2 rfl) ?_
      refine va_get (D := g.1) (ci := 5) (v := .ref (ad 6)) (C := RX5) (T := TX5) (N := 11) hx hb hts inX5_move_RX5 hown hK hP 0 rfl rfl 1 (Nat.le_of_ble_eq_true rfl) (hts _ (List.mem_of_getElem? (i := 2) rfl)) (fun _ h9 => h9) rfl dX5_move_101 ?_
      refine lv_iload_n hx hb dX5_move_104 rfl (lv_at hl 3 rfl) ?_
      refine lv_aload_n hx hb dX5_move_105 rfl (lv_at hl 2 rfl) ?_
      refine va_get (D := g.1) (ci := 5) (v := .int ((V 16) 1)) (C := RX5) (T := TX5) (N := 11) hx hb hts inX5_move_RX5 hown hK hP 0 rfl rfl 6 (Nat.le_of_ble_eq_true rfl) (hts _ (List.mem_of_getElem? (i := 9) rfl)) (fun _ h9 => h9) rfl dX5_move_106 ?_
      obtain ⟨o109, hc109, h⟩ := az_bnd h
      refine az_callVv (w2 := az_cV g ad (va_up (va_up (va_up (va_up (va_up (va_up (va_up (va_up (va_up (va_up V 0 o5.2.1) 2 o5.2.2.1) 3 o5.2.2.2) 5 o109.1) 6 o49.1) 7 o49.2.1) 8 o49.2.2) 9 o109.2) 14 o97) 15 (upd (V 15) ((V 6) x1.toNatClampNeg).toNatClampNeg o5.1))) (As := [.int x1, .int ((V 16) 1)]) (rest := []) ⟨hx, hb, hml, hown, hts⟩ hl.1 (kX0_beginToWait l g ad (va_up (va_up (va_up (va_up (va_up (va_up (va_up (va_up (va_up V 0 o5.2.1) 2 o5.2.2.1) 3 o5.2.2.2) 5 (upd (V 5) o5.1.toNatClampNeg ((V 5) x1.toNatClampNeg))) 6 o49.1) 7 o49.2.1) 8 o49.2.2) 14 o97) 15 (upd (V 15) ((V 6) x1.toNatClampNeg).toNatClampNeg o5.1)) x1 ((V 16) 1) o109 hc109) (cwV 2 hts gX5_move_X0_beginToWait rfl rfl rfl (by decide +kernel) ⟨Nat.le_of_ble_eq_true rfl, Nat.le_of_ble_eq_true rfl⟩) rfl hK hP hD hS hA [6, 7, 8, 9, 10, 11, 12] [0, 1, 2, 3, 4, 5, 13, 14, 15, 16, 17, 18, 19] [0, 1, 2, 3, 4, 5, 13, 14, 15, 16, 17, 18, 19, 6, 7, 8, 9, 10, 11, 12] rfl rfl rfl rfl rfl (by decide) rfl rfl rfl 0 rfl rfl rfl (Nat.le_of_ble_eq_true rfl) dX5_move_109 ⟨Nat.zero_le _, Nat.zero_le _⟩ rfl (fun H locs hP hD hS => ?_)
      have hP : va_P g.1 az_cl (az_cV g ad (va_up (va_up (va_up (va_up (va_up (va_up (va_up (va_up (va_up (va_up V 0 o5.2.1) 2 o5.2.2.1) 3 o5.2.2.2) 5 o109.1) 6 o49.1) 7 o49.2.1) 8 o49.2.2) 9 o109.2) 14 o97) 15 (upd (V 15) ((V 6) x1.toNatClampNeg).toNatClampNeg o5.1))) _ := hP
      have hD : va_D A (az_cV g ad (va_up (va_up (va_up (va_up (va_up (va_up (va_up (va_up (va_up (va_up V 0 o5.2.1) 2 o5.2.2.1) 3 o5.2.2.2) 5 o109.1) 6 o49.1) 7 o49.2.1) 8 o49.2.2) 9 o109.2) 14 o97) 15 (upd (V 15) ((V 6) x1.toNatClampNeg).toNatClampNeg o5.1))) := hD
      rw [← Option.some.inj h]
      exact az_vret hx hb hr hlocks hK hP hD hS dX5_move_112
  · replace h := az_pos c11 h
    have hP : va_P g.1 az_cl (az_cV g ad (va_up (va_up (va_up (va_up (va_up (va_up (va_up (va_up (va_up (va_up V 0 o5.2.1) 2 o5.2.2.1) 3 o5.2.2.2) 5 (V 5)) 6 (V 6)) 7 (V 7)) 8 (V 8)) 9 (V 9)) 14 (V 14)) 15 (V 15))) _ := hP
    have hD : va_D A (az_cV g ad (va_up (va_up (va_up (va_up (va_up (va_up (va_up (va_up (va_up (va_up V 0 o5.2.1) 2 o5.2.2.1) 3 o5.2.2.2) 5 (V 5)) 6 (V 6)) 7 (V 7)) 8 (V 8)) 9 (V 9)) 14 (V 14)) 15 (V 15))) := hD
    rw [← Option.some.inj h]
    exact az_vret hx hb hr hlocks hK hP hD hS dX5_move_14

def FX5_moveAll_L10 : Nat → az_St → Int32 → (Nat → Int32) → (Nat → Int32) → (Nat → Int32) → (Nat → Int32) → (Nat → Int32) → (Nat → Int32) → (Nat → Int32) → (Nat → Int32) → (Nat → Int32) → (Nat → Int32) → (Nat → Int32) → Int32 → Int32 → Int32 → Option (Int32 × (Nat → Int32) × (Nat → Int32) × (Nat → Int32) × (Nat → Int32) × (Nat → Int32) × (Nat → Int32) × (Nat → Int32) × (Nat → Int32) × (Nat → Int32) × (Nat → Int32) × (Nat → Int32))
  | 0, _, _, _, _, _, _, _, _, _, _, _, _, _, _, _, _ => none
  | n + 1, V, x1, wV0, wV2, wV3, wV5, wV6, wV7, wV8, wV9, wV14, wV15, wV16, y2, y3, y4 => if y2 + ((V 4) 1) ≤ y4 then (some (y3, wV0, wV2, wV3, wV5, wV6, wV7, wV8, wV9, wV14, wV15, upd wV16 5 ((wV16 5) + y3))) else ((FX0_isNeeded (va_up (va_up (va_up (va_up (va_up (va_up (va_up (va_up (va_up (va_up (va_up V 0 wV0) 2 wV2) 3 wV3) 5 wV5) 6 wV6) 7 wV7) 8 wV8) 9 wV9) 14 wV14) 15 wV15) 16 wV16) y4).bind (fun o30 => if o30 = (0 : Int32) then (FX5_moveAll_L10 n V x1 wV0 wV2 wV3 wV5 wV6 wV7 wV8 wV9 wV14 wV15 wV16 y2 y3 (y4 + (1 : Int32))) else ((FX5_move (va_up (va_up (va_up (va_up (va_up (va_up (va_up (va_up (va_up (va_up (va_up V 0 wV0) 2 wV2) 3 wV3) 5 wV5) 6 wV6) 7 wV7) 8 wV8) 9 wV9) 14 wV14) 15 wV15) 16 wV16) y4).bind (fun o39 => FX5_moveAll_L10 n V x1 o39.1 o39.2.1 o39.2.2.1 o39.2.2.2.1 o39.2.2.2.2.1 o39.2.2.2.2.2.1 o39.2.2.2.2.2.2.1 o39.2.2.2.2.2.2.2.1 o39.2.2.2.2.2.2.2.2.1 o39.2.2.2.2.2.2.2.2.2 wV16 y2 (y3 + (1 : Int32)) (y4 + (1 : Int32))))))
theorem FX5_moveAll_L10_s (n : Nat) (V : az_St) (x1 : Int32) (wV0 : Nat → Int32) (wV2 : Nat → Int32) (wV3 : Nat → Int32) (wV5 : Nat → Int32) (wV6 : Nat → Int32) (wV7 : Nat → Int32) (wV8 : Nat → Int32) (wV9 : Nat → Int32) (wV14 : Nat → Int32) (wV15 : Nat → Int32) (wV16 : Nat → Int32) (y2 : Int32) (y3 : Int32) (y4 : Int32) : FX5_moveAll_L10 (n + 1) V x1 wV0 wV2 wV3 wV5 wV6 wV7 wV8 wV9 wV14 wV15 wV16 y2 y3 y4 = (if y2 + ((V 4) 1) ≤ y4 then (some (y3, wV0, wV2, wV3, wV5, wV6, wV7, wV8, wV9, wV14, wV15, upd wV16 5 ((wV16 5) + y3))) else ((FX0_isNeeded (va_up (va_up (va_up (va_up (va_up (va_up (va_up (va_up (va_up (va_up (va_up V 0 wV0) 2 wV2) 3 wV3) 5 wV5) 6 wV6) 7 wV7) 8 wV8) 9 wV9) 14 wV14) 15 wV15) 16 wV16) y4).bind (fun o30 => if o30 = (0 : Int32) then (FX5_moveAll_L10 n V x1 wV0 wV2 wV3 wV5 wV6 wV7 wV8 wV9 wV14 wV15 wV16 y2 y3 (y4 + (1 : Int32))) else ((FX5_move (va_up (va_up (va_up (va_up (va_up (va_up (va_up (va_up (va_up (va_up (va_up V 0 wV0) 2 wV2) 3 wV3) 5 wV5) 6 wV6) 7 wV7) 8 wV8) 9 wV9) 14 wV14) 15 wV15) 16 wV16) y4).bind (fun o39 => FX5_moveAll_L10 n V x1 o39.1 o39.2.1 o39.2.2.1 o39.2.2.2.1 o39.2.2.2.2.1 o39.2.2.2.2.2.1 o39.2.2.2.2.2.2.1 o39.2.2.2.2.2.2.2.1 o39.2.2.2.2.2.2.2.2.1 o39.2.2.2.2.2.2.2.2.2 wV16 y2 (y3 + (1 : Int32)) (y4 + (1 : Int32))))))) := rfl
def FX5_moveAll (V : az_St) (x1 : Int32) : Option (Int32 × (Nat → Int32) × (Nat → Int32) × (Nat → Int32) × (Nat → Int32) × (Nat → Int32) × (Nat → Int32) × (Nat → Int32) × (Nat → Int32) × (Nat → Int32) × (Nat → Int32) × (Nat → Int32)) := FX5_moveAll_L10 az_fuel V x1 (V 0) (V 2) (V 3) (V 5) (V 6) (V 7) (V 8) (V 9) (V 14) (V 15) (V 16) (x1 * (16 : Int32)) (0 : Int32) (x1 * (16 : Int32))
theorem inX5_moveAll_RX3 : ∀ w ∈ wsX30, w ∈ wsX5_moveAll := az_inr [75, 76, 77, 78, 79, 80] (by decide +kernel)
theorem inX5_moveAll_RX5 : ∀ w ∈ wsX50, w ∈ wsX5_moveAll := az_inr [64, 65, 66, 67, 68, 69, 70, 71, 72, 73, 74] (by decide +kernel)
set_option maxHeartbeats 4000000 in
set_option maxRecDepth 100000 in
theorem kX5_moveAll (l : Launch) (g : az_G) (ad : Nat → Nat) (V : az_St) (x1 : Int32) (o : Int32 × (Nat → Int32) × (Nat → Int32) × (Nat → Int32) × (Nat → Int32) × (Nat → Int32) × (Nat → Int32) × (Nat → Int32) × (Nat → Int32) × (Nat → Int32) × (Nat → Int32) × (Nat → Int32)) (h : FX5_moveAll V x1 = some o) : az_I l yX5_moveAll wsX5_moveAll ({ frames := 4, cells := 0, slots := 0, locals := 92 } : Room) [.ref (ad 0), .int x1] g (az_cV g ad V) o.1 (az_cV g ad (va_up (va_up (va_up (va_up (va_up (va_up (va_up (va_up (va_up (va_up (va_up V 0 o.2.1) 2 o.2.2.1) 3 o.2.2.2.1) 5 o.2.2.2.2.1) 6 o.2.2.2.2.2.1) 7 o.2.2.2.2.2.2.1) 8 o.2.2.2.2.2.2.2.1) 9 o.2.2.2.2.2.2.2.2.1) 14 o.2.2.2.2.2.2.2.2.2.1) 15 o.2.2.2.2.2.2.2.2.2.2.1) 16 o.2.2.2.2.2.2.2.2.2.2.2)) := by
  refine az_body (cc := cX5_moveAll) (maxL := 5) (ret := (some .int)) (Qc := fun A => az_QI g (az_cV g ad (va_up (va_up (va_up (va_up (va_up (va_up (va_up (va_up (va_up (va_up (va_up V 0 o.2.1) 2 o.2.2.1) 3 o.2.2.2.1) 5 o.2.2.2.2.1) 6 o.2.2.2.2.2.1) 7 o.2.2.2.2.2.2.1) 8 o.2.2.2.2.2.2.2.1) 9 o.2.2.2.2.2.2.2.2.1) 14 o.2.2.2.2.2.2.2.2.2.1) 15 o.2.2.2.2.2.2.2.2.2.2.1) 16 o.2.2.2.2.2.2.2.2.2.2.2)) o.1 A) (by decide +kernel) rfl (Nat.le_of_ble_eq_true rfl) ?_
  intro p e s m args below meth c A hx hb hr hts hown hml hlocks hA hK hP hD hS ls hl
  have hl : lv_has ls 5 [(0, .ref (ad 0)), (1, .int x1)] := hl
  unfold FX5_moveAll at h
  have hL10 : ∀ (n : Nat) (wV0 : Nat → Int32) (wV2 : Nat → Int32) (wV3 : Nat → Int32) (wV5 : Nat → Int32) (wV6 : Nat → Int32) (wV7 : Nat → Int32) (wV8 : Nat → Int32) (wV9 : Nat → Int32) (wV14 : Nat → Int32) (wV15 : Nat → Int32) (wV16 : Nat → Int32) (y2 : Int32) (y3 : Int32) (y4 : Int32) (H : Heap) (locs : List Loc) (ls : Array Slot), FX5_moveAll_L10 n V x1 wV0 wV2 wV3 wV5 wV6 wV7 wV8 wV9 wV14 wV15 wV16 y2 y3 y4 = some o → va_P g.1 az_cl (az_cV g ad (va_up (va_up (va_up (va_up (va_up (va_up (va_up (va_up (va_up (va_up (va_up V 0 wV0) 2 wV2) 3 wV3) 5 wV5) 6 wV6) 7 wV7) 8 wV8) 9 wV9) 14 wV14) 15 wV15) 16 wV16)) H → va_D A (az_cV g ad (va_up (va_up (va_up (va_up (va_up (va_up (va_up (va_up (va_up (va_up (va_up V 0 wV0) 2 wV2) 3 wV3) 5 wV5) 6 wV6) 7 wV7) 8 wV8) 9 wV9) 14 wV14) 15 wV15) 16 wV16)) → va_S A s.heap H locs → lv_has ls 5 [(0, .ref (ad 0)), (2, .int y2), (3, .int y3), (4, .int y4)] → W p l e ({ frames := 4, cells := 0, slots := 0, locals := 92 } : Room) s m args below meth c H locs 0 0 (MQ below (az_QI g (az_cV g ad (va_up (va_up (va_up (va_up (va_up (va_up (va_up (va_up (va_up (va_up (va_up V 0 o.2.1) 2 o.2.2.1) 3 o.2.2.2.1) 5 o.2.2.2.2.1) 6 o.2.2.2.2.2.1) 7 o.2.2.2.2.2.2.1) 8 o.2.2.2.2.2.2.2.1) 9 o.2.2.2.2.2.2.2.2.1) 14 o.2.2.2.2.2.2.2.2.2.1) 15 o.2.2.2.2.2.2.2.2.2.2.1) 16 o.2.2.2.2.2.2.2.2.2.2.2)) o.1 A) args s 0 0 A) (F0 m 10 ls []) := by
    intro n
    induction n with
    | zero => intro wV0 wV2 wV3 wV5 wV6 wV7 wV8 wV9 wV14 wV15 wV16 y2 y3 y4 H locs ls h; exact az_non h
    | succ n ih =>
      intro wV0 wV2 wV3 wV5 wV6 wV7 wV8 wV9 wV14 wV15 wV16 y2 y3 y4 H locs ls h hP hD hS hl
      rw [FX5_moveAll_L10_s] at h
      refine lv_iload hx hb dX5_moveAll_10 (lv_at hl 3 rfl) ?_
      refine lv_iload_n hx hb dX5_moveAll_12 rfl (lv_at hl 1 rfl) ?_
      refine lv_aload_n hx hb dX5_moveAll_13 rfl (lv_at hl 0 rfl) ?_
      refine va_get (D := g.1) (ci := 5) (v := .ref (ad 1)) (C := RX5) (T := TX5) (N := 11) hx hb hts inX5_moveAll_RX5 hown hK hP 0 rfl rfl 0 (Nat.le_of_ble_eq_true rfl) (hts _ (List.mem_of_getElem? (i := 1) rfl)) (fun _ h9 => h9) rfl dX5_moveAll_14 ?_
      refine va_get (D := g.1) (ci := 3) (v := .int ((V 4) 1)) (C := RX3) (T := TX3) (N := 6) hx hb hts inX5_moveAll_RX3 hown hK hP 1 rfl rfl 5 (Nat.le_of_ble_eq_true rfl) (hts _ (List.mem_of_getElem? (i := 2) rfl)) (fun _ h9 => h9) rfl dX5_moveAll_17 ?_
      refine lv_iadd hx hb dX5_moveAll_20 ?_
      refine lv_icmp_ge (tgt := 51) hx hb dX5_moveAll_21 (by decide) (fun c21 => ?_) (fun c21 => ?_)
      · replace h := az_pos c21 h
        refine lv_aload_n hx hb dX5_moveAll_51 rfl (lv_at hl 0 rfl) ?_
        refine lv_dup hx hb dX5_moveAll_52 rfl ?_
        refine va_get (D := g.1) (ci := 5) (v := .int (wV16 5)) (C := RX5) (T := TX5) (N := 11) hx hb hts inX5_moveAll_RX5 hown hK hP 0 rfl rfl 10 (Nat.le_of_ble_eq_true rfl) (hts _ (List.mem_of_getElem? (i := 4) rfl)) (fun _ h9 => h9) rfl dX5_moveAll_53 ?_
        refine lv_iload_n hx hb dX5_moveAll_56 rfl (lv_at hl 2 rfl) ?_
        refine lv_iadd hx hb dX5_moveAll_57 ?_
        refine va_put (D := g.1) (ci := 5) (v := .int ((wV16 5) + y3)) (ty := .int) (C := RX5) (T := TX5) (N := 11) hx hb hts inX5_moveAll_RX5 tyX5 tyX5_ok nmX5 hown hK hP hD hS 0 rfl rfl 10 (Nat.le_of_ble_eq_true rfl) (hts _ (List.mem_of_getElem? (i := 4) rfl)) (fun _ h9 => h9) rfl (by decide +kernel) rfl rfl (Nat.le_of_ble_eq_true rfl) dX5_moveAll_58 (fun H locs hP hD hS => ?_)
        have hP : va_P g.1 az_cl (az_cV g ad (va_up (va_up (va_up (va_up (va_up (va_up (va_up (va_up (va_up (va_up (va_up V 0 wV0) 2 wV2) 3 wV3) 5 wV5) 6 wV6) 7 wV7) 8 wV8) 9 wV9) 14 wV14) 15 wV15) 16 (upd wV16 5 ((wV16 5) + y3)))) _ := hP
        have hD : va_D A (az_cV g ad (va_up (va_up (va_up (va_up (va_up (va_up (va_up (va_up (va_up (va_up (va_up V 0 wV0) 2 wV2) 3 wV3) 5 wV5) 6 wV6) 7 wV7) 8 wV8) 9 wV9) 14 wV14) 15 wV15) 16 (upd wV16 5 ((wV16 5) + y3)))) := hD
        refine lv_iload_n hx hb dX5_moveAll_61 rfl (lv_at hl 2 rfl) ?_
        have hP : va_P g.1 az_cl (az_cV g ad (va_up (va_up (va_up (va_up (va_up (va_up (va_up (va_up (va_up (va_up (va_up V 0 wV0) 2 wV2) 3 wV3) 5 wV5) 6 wV6) 7 wV7) 8 wV8) 9 wV9) 14 wV14) 15 wV15) 16 (upd wV16 5 ((wV16 5) + y3)))) _ := hP
        have hD : va_D A (az_cV g ad (va_up (va_up (va_up (va_up (va_up (va_up (va_up (va_up (va_up (va_up (va_up V 0 wV0) 2 wV2) 3 wV3) 5 wV5) 6 wV6) 7 wV7) 8 wV8) 9 wV9) 14 wV14) 15 wV15) 16 (upd wV16 5 ((wV16 5) + y3)))) := hD
        rw [← Option.some.inj h]
        exact az_iret hx hb hr hlocks hK hP hD hS dX5_moveAll_62
      · replace h := az_neg c21 h
        refine lv_aload_n hx hb dX5_moveAll_24 rfl (lv_at hl 0 rfl) ?_
        refine va_get (D := g.1) (ci := 5) (v := .ref (ad 6)) (C := RX5) (T := TX5) (N := 11) hx hb hts inX5_moveAll_RX5 hown hK hP 0 rfl rfl 1 (Nat.le_of_ble_eq_true rfl) (hts _ (List.mem_of_getElem? (i := 3) rfl)) (fun _ h9 => h9) rfl dX5_moveAll_25 ?_
        refine lv_iload hx hb dX5_moveAll_28 (lv_at hl 3 rfl) ?_
        obtain ⟨o30, hc30, h⟩ := az_bnd h
        refine az_callVi (w2 := az_cV g ad (va_up (va_up (va_up (va_up (va_up (va_up (va_up (va_up (va_up (va_up (va_up V 0 wV0) 2 wV2) 3 wV3) 5 wV5) 6 wV6) 7 wV7) 8 wV8) 9 wV9) 14 wV14) 15 wV15) 16 wV16)) (As := [.int y4]) (rest := []) ⟨hx, hb, hml, hown, hts⟩ hl.1 (kX0_isNeeded l g ad (va_up (va_up (va_up (va_up (va_up (va_up (va_up (va_up (va_up (va_up (va_up V 0 wV0) 2 wV2) 3 wV3) 5 wV5) 6 wV6) 7 wV7) 8 wV8) 9 wV9) 14 wV14) 15 wV15) 16 wV16) y4 o30 hc30) (cwV 1 hts gX5_moveAll_X0_isNeeded rfl rfl rfl (by decide +kernel) ⟨Nat.le_of_ble_eq_true rfl, Nat.le_of_ble_eq_true rfl⟩) rfl hK hP hD hS hA [6, 7, 8, 9, 10, 11, 12] [0, 1, 2, 3, 4, 5, 13, 14, 15, 16, 17, 18, 19] [0, 1, 2, 3, 4, 5, 13, 14, 15, 16, 17, 18, 19, 6, 7, 8, 9, 10, 11, 12] rfl rfl rfl rfl rfl (by decide) rfl rfl rfl 0 rfl rfl rfl (Nat.le_of_ble_eq_true rfl) dX5_moveAll_30 ⟨Nat.zero_le _, Nat.zero_le _⟩ rfl (fun H locs hP hD hS => ?_)
        refine lv_if_eq (tgt := 45) hx hb dX5_moveAll_33 (by decide) (fun c33 => ?_) (fun c33 => ?_)
        · replace h := az_pos c33 h
          refine lv_iinc (v := y4 + (1 : Int32)) (lv' := [(4, .int (y4 + (1 : Int32))), (0, .ref (ad 0)), (2, .int y2), (3, .int y3)]) hx hb dX5_moveAll_45 hl (k := 3) rfl (rfl) (by decide) rfl (fun ls hl => ?_)
          refine lv_goto (tgt := 10) hx hb dX5_moveAll_48 (by decide) ?_
          have hP : va_P g.1 az_cl (az_cV g ad (va_up (va_up (va_up (va_up (va_up (va_up (va_up (va_up (va_up (va_up (va_up V 0 wV0) 2 wV2) 3 wV3) 5 wV5) 6 wV6) 7 wV7) 8 wV8) 9 wV9) 14 wV14) 15 wV15) 16 wV16)) _ := hP
          have hD : va_D A (az_cV g ad (va_up (va_up (va_up (va_up (va_up (va_up (va_up (va_up (va_up (va_up (va_up V 0 wV0) 2 wV2) 3 wV3) 5 wV5) 6 wV6) 7 wV7) 8 wV8) 9 wV9) 14 wV14) 15 wV15) 16 wV16)) := hD
          exact ih wV0 wV2 wV3 wV5 wV6 wV7 wV8 wV9 wV14 wV15 wV16 y2 y3 (y4 + (1 : Int32)) _ _ ls h hP hD hS (lv_sub hl [1, 2, 3, 0] rfl)
        · replace h := az_neg c33 h
          refine lv_aload_n hx hb dX5_moveAll_36 rfl (lv_at hl 0 rfl) ?_
          refine lv_iload hx hb dX5_moveAll_37 (lv_at hl 3 rfl) ?_
          obtain ⟨o39, hc39, h⟩ := az_bnd h
          refine az_callVv (w2 := az_cV g ad (va_up (va_up (va_up (va_up (va_up (va_up (va_up (va_up (va_up (va_up (va_up V 0 o39.1) 2 o39.2.1) 3 o39.2.2.1) 5 o39.2.2.2.1) 6 o39.2.2.2.2.1) 7 o39.2.2.2.2.2.1) 8 o39.2.2.2.2.2.2.1) 9 o39.2.2.2.2.2.2.2.1) 14 o39.2.2.2.2.2.2.2.2.1) 15 o39.2.2.2.2.2.2.2.2.2) 16 wV16)) (As := [.int y4]) (rest := []) ⟨hx, hb, hml, hown, hts⟩ hl.1 (kX5_move l g ad (va_up (va_up (va_up (va_up (va_up (va_up (va_up (va_up (va_up (va_up (va_up V 0 wV0) 2 wV2) 3 wV3) 5 wV5) 6 wV6) 7 wV7) 8 wV8) 9 wV9) 14 wV14) 15 wV15) 16 wV16) y4 o39 hc39) (cwV 1 hts gX5_moveAll_X5_move rfl rfl rfl (by decide +kernel) ⟨Nat.le_of_ble_eq_true rfl, Nat.le_of_ble_eq_true rfl⟩) rfl hK hP hD hS hA [0, 1, 2, 3, 4, 5, 6, 7, 8, 9, 10, 11, 12, 13, 14, 15, 16, 17, 18, 19] [] [0, 1, 2, 3, 4, 5, 6, 7, 8, 9, 10, 11, 12, 13, 14, 15, 16, 17, 18, 19] rfl rfl rfl rfl rfl (by decide) rfl rfl rfl 0 rfl rfl rfl (Nat.le_of_ble_eq_true rfl) dX5_moveAll_39 ⟨Nat.zero_le _, Nat.zero_le _⟩ rfl (fun H locs hP hD hS => ?_)
          refine lv_iinc (v := y3 + (1 : Int32)) (lv' := [(3, .int (y3 + (1 : Int32))), (0, .ref (ad 0)), (2, .int y2), (4, .int y4)]) hx hb dX5_moveAll_42 hl (k := 2) rfl (rfl) (by decide) rfl (fun ls hl => ?_)
          refine lv_iinc (v := y4 + (1 : Int32)) (lv' := [(4, .int (y4 + (1 : Int32))), (3, .int (y3 + (1 : Int32))), (0, .ref (ad 0)), (2, .int y2)]) hx hb dX5_moveAll_45 hl (k := 3) rfl (rfl) (by decide) rfl (fun ls hl => ?_)
          refine lv_goto (tgt := 10) hx hb dX5_moveAll_48 (by decide) ?_
          have hP : va_P g.1 az_cl (az_cV g ad (va_up (va_up (va_up (va_up (va_up (va_up (va_up (va_up (va_up (va_up (va_up V 0 o39.1) 2 o39.2.1) 3 o39.2.2.1) 5 o39.2.2.2.1) 6 o39.2.2.2.2.1) 7 o39.2.2.2.2.2.1) 8 o39.2.2.2.2.2.2.1) 9 o39.2.2.2.2.2.2.2.1) 14 o39.2.2.2.2.2.2.2.2.1) 15 o39.2.2.2.2.2.2.2.2.2) 16 wV16)) _ := hP
          have hD : va_D A (az_cV g ad (va_up (va_up (va_up (va_up (va_up (va_up (va_up (va_up (va_up (va_up (va_up V 0 o39.1) 2 o39.2.1) 3 o39.2.2.1) 5 o39.2.2.2.1) 6 o39.2.2.2.2.1) 7 o39.2.2.2.2.2.1) 8 o39.2.2.2.2.2.2.1) 9 o39.2.2.2.2.2.2.2.1) 14 o39.2.2.2.2.2.2.2.2.1) 15 o39.2.2.2.2.2.2.2.2.2) 16 wV16)) := hD
          exact ih o39.1 o39.2.1 o39.2.2.1 o39.2.2.2.1 o39.2.2.2.2.1 o39.2.2.2.2.2.1 o39.2.2.2.2.2.2.1 o39.2.2.2.2.2.2.2.1 o39.2.2.2.2.2.2.2.2.1 o39.2.2.2.2.2.2.2.2.2 wV16 y2 (y3 + (1 : Int32)) (y4 + (1 : Int32)) _ _ ls h hP hD hS (lv_sub hl [2, 3, 1, 0] rfl)
  refine lv_iload_n hx hb dX5_moveAll_0 rfl (lv_at hl 1 rfl) ?_
  refine lv_bipush (v := (16 : Int32)) hx hb dX5_moveAll_1 (by decide) ?_
  refine lv_imul hx hb dX5_moveAll_3 ?_
  refine lv_istore_n (lv' := [(2, .int (x1 * (16 : Int32))), (0, .ref (ad 0)), (1, .int x1)]) hx hb dX5_moveAll_4 rfl hl (by decide) rfl (fun ls hl => ?_)
  refine lv_iconst (v := (0 : Int32)) hx hb dX5_moveAll_5 (by decide) ?_
  refine lv_istore_n (lv' := [(3, .int (0 : Int32)), (2, .int (x1 * (16 : Int32))), (0, .ref (ad 0)), (1, .int x1)]) hx hb dX5_moveAll_6 rfl hl (by decide) rfl (fun ls hl => ?_)
  refine lv_iload_n hx hb dX5_moveAll_7 rfl (lv_at hl 1 rfl) ?_
  refine lv_istore (lv' := [(4, .int (x1 * (16 : Int32))), (3, .int (0 : Int32)), (2, .int (x1 * (16 : Int32))), (0, .ref (ad 0)), (1, .int x1)]) hx hb dX5_moveAll_8 hl (by decide) rfl (fun ls hl => ?_)
  have hP : va_P g.1 az_cl (az_cV g ad (va_up (va_up (va_up (va_up (va_up (va_up (va_up (va_up (va_up (va_up (va_up V 0 (V 0)) 2 (V 2)) 3 (V 3)) 5 (V 5)) 6 (V 6)) 7 (V 7)) 8 (V 8)) 9 (V 9)) 14 (V 14)) 15 (V 15)) 16 (V 16))) _ := hP
  have hD : va_D A (az_cV g ad (va_up (va_up (va_up (va_up (va_up (va_up (va_up (va_up (va_up (va_up (va_up V 0 (V 0)) 2 (V 2)) 3 (V 3)) 5 (V 5)) 6 (V 6)) 7 (V 7)) 8 (V 8)) 9 (V 9)) 14 (V 14)) 15 (V 15)) 16 (V 16))) := hD
  exact hL10 az_fuel (V 0) (V 2) (V 3) (V 5) (V 6) (V 7) (V 8) (V 9) (V 14) (V 15) (V 16) (x1 * (16 : Int32)) (0 : Int32) (x1 * (16 : Int32)) _ _ ls h hP hD hS (lv_sub hl [3, 2, 1, 0] rfl)

def FX5_isBetter (V : az_St) (x1 : Int32) (x2 : Int32) (x3 : Int32) : Option (Int32) := (FX5_useOf V x2).bind (fun o2 => (FX5_useOf V x3).bind (fun o9 => (FX5_ageOf V x2).bind (fun o16 => (FX5_ageOf V x3).bind (fun o23 => if x1 = (0 : Int32) then (if o9 ≤ o2 then (some ((0 : Int32))) else (some ((1 : Int32)))) else (if x1 = (1 : Int32) then (if lg_cmp ((((((V 4) 1) - o2).toInt64) * o16.toInt64) * ((((V 4) 1) + o9).toInt64)) ((((((V 4) 1) - o9).toInt64) * o23.toInt64) * ((((V 4) 1) + o2).toInt64)) ≤ (0 : Int32) then (some ((0 : Int32))) else (some ((1 : Int32)))) else (if o16 ≤ o23 then (some ((0 : Int32))) else (some ((1 : Int32)))))))))
theorem inX5_isBetter_RX3 : ∀ w ∈ wsX30, w ∈ wsX5_isBetter := az_inr [44, 45, 46, 47, 48, 49] (by decide +kernel)
theorem inX5_isBetter_RX5 : ∀ w ∈ wsX50, w ∈ wsX5_isBetter := az_inr [33, 34, 35, 36, 37, 38, 39, 40, 41, 42, 43] (by decide +kernel)
set_option maxHeartbeats 4000000 in
set_option maxRecDepth 100000 in
theorem kX5_isBetter (l : Launch) (g : az_G) (ad : Nat → Nat) (V : az_St) (x1 : Int32) (x2 : Int32) (x3 : Int32) (o : Int32) (h : FX5_isBetter V x1 x2 x3 = some o) : az_I l yX5_isBetter wsX5_isBetter ({ frames := 3, cells := 0, slots := 0, locals := 87 } : Room) [.ref (ad 0), .int x1, .int x2, .int x3] g (az_cV g ad V) o (az_cV g ad V) := by
  refine az_body (cc := cX5_isBetter) (maxL := 8) (ret := (some .boolean)) (Qc := fun A => az_QI g (az_cV g ad V) o A) (by decide +kernel) rfl (Nat.le_of_ble_eq_true rfl) ?_
  intro p e s m args below meth c A hx hb hr hts hown hml hlocks hA hK hP hD hS ls hl
  have hl : lv_has ls 8 [(0, .ref (ad 0)), (1, .int x1), (2, .int x2), (3, .int x3)] := hl
  unfold FX5_isBetter at h
  refine lv_aload_n hx hb dX5_isBetter_0 rfl (lv_at hl 0 rfl) ?_
  refine lv_iload_n hx hb dX5_isBetter_1 rfl (lv_at hl 2 rfl) ?_
  obtain ⟨o2, hc2, h⟩ := az_bnd h
  refine az_callVi (w2 := az_cV g ad V) (As := [.int x2]) (rest := []) ⟨hx, hb, hml, hown, hts⟩ hl.1 (kX5_useOf l g ad V x2 o2 hc2) (cwV 1 hts gX5_isBetter_X5_useOf rfl rfl rfl (by decide +kernel) ⟨Nat.le_of_ble_eq_true rfl, Nat.le_of_ble_eq_true rfl⟩) rfl hK hP hD hS hA [0, 1, 2, 3, 4, 5, 6, 7, 8, 9, 10, 11, 12, 13, 14, 15, 16, 17, 18, 19] [] [0, 1, 2, 3, 4, 5, 6, 7, 8, 9, 10, 11, 12, 13, 14, 15, 16, 17, 18, 19] rfl rfl rfl rfl rfl (by decide) rfl rfl rfl 0 rfl rfl rfl (Nat.le_of_ble_eq_true rfl) dX5_isBetter_2 ⟨Nat.zero_le _, Nat.zero_le _⟩ rfl (fun H locs hP hD hS => ?_)
  refine lv_istore (lv' := [(4, .int o2), (0, .ref (ad 0)), (1, .int x1), (2, .int x2), (3, .int x3)]) hx hb dX5_isBetter_5 hl (by decide) rfl (fun ls hl => ?_)
  refine lv_aload_n hx hb dX5_isBetter_7 rfl (lv_at hl 1 rfl) ?_
  refine lv_iload_n hx hb dX5_isBetter_8 rfl (lv_at hl 4 rfl) ?_
  obtain ⟨o9, hc9, h⟩ := az_bnd h
  refine az_callVi (w2 := az_cV g ad V) (As := [.int x3]) (rest := []) ⟨hx, hb, hml, hown, hts⟩ hl.1 (kX5_useOf l g ad V x3 o9 hc9) (cwV 1 hts gX5_isBetter_X5_useOf rfl rfl rfl (by decide +kernel) ⟨Nat.le_of_ble_eq_true rfl, Nat.le_of_ble_eq_true rfl⟩) rfl hK hP hD hS hA [0, 1, 2, 3, 4, 5, 6, 7, 8, 9, 10, 11, 12, 13, 14, 15, 16, 17, 18, 19] [] [0, 1, 2, 3, 4, 5, 6, 7, 8, 9, 10, 11, 12, 13, 14, 15, 16, 17, 18, 19] rfl rfl rfl rfl rfl (by decide) rfl rfl rfl 0 rfl rfl rfl (Nat.le_of_ble_eq_true rfl) dX5_isBetter_9 ⟨Nat.zero_le _, Nat.zero_le _⟩ rfl (fun H locs hP hD hS => ?_)
  refine lv_istore (lv' := [(5, .int o9), (4, .int o2), (0, .ref (ad 0)), (1, .int x1), (2, .int x2), (3, .int x3)]) hx hb dX5_isBetter_12 hl (by decide) rfl (fun ls hl => ?_)
  refine lv_aload_n hx hb dX5_isBetter_14 rfl (lv_at hl 2 rfl) ?_
  refine lv_iload_n hx hb dX5_isBetter_15 rfl (lv_at hl 4 rfl) ?_
  obtain ⟨o16, hc16, h⟩ := az_bnd h
  refine az_callVi (w2 := az_cV g ad V) (As := [.int x2]) (rest := []) ⟨hx, hb, hml, hown, hts⟩ hl.1 (kX5_ageOf l g ad V x2 o16 hc16) (cwV 1 hts gX5_isBetter_X5_ageOf rfl rfl rfl (by decide +kernel) ⟨Nat.le_of_ble_eq_true rfl, Nat.le_of_ble_eq_true rfl⟩) rfl hK hP hD hS hA [0, 1, 2, 3, 4, 5, 6, 7, 8, 9, 10, 11, 12, 13, 14, 15, 16, 17, 18, 19] [] [0, 1, 2, 3, 4, 5, 6, 7, 8, 9, 10, 11, 12, 13, 14, 15, 16, 17, 18, 19] rfl rfl rfl rfl rfl (by decide) rfl rfl rfl 0 rfl rfl rfl (Nat.le_of_ble_eq_true rfl) dX5_isBetter_16 ⟨Nat.zero_le _, Nat.zero_le _⟩ rfl (fun H locs hP hD hS => ?_)
  refine lv_istore (lv' := [(6, .int o16), (5, .int o9), (4, .int o2), (0, .ref (ad 0)), (1, .int x1), (2, .int x2), (3, .int x3)]) hx hb dX5_isBetter_19 hl (by decide) rfl (fun ls hl => ?_)
  refine lv_aload_n hx hb dX5_isBetter_21 rfl (lv_at hl 3 rfl) ?_
  refine lv_iload_n hx hb dX5_isBetter_22 rfl (lv_at hl 6 rfl) ?_
  obtain ⟨o23, hc23, h⟩ := az_bnd h
  refine az_callVi (w2 := az_cV g ad V) (As := [.int x3]) (rest := []) ⟨hx, hb, hml, hown, hts⟩ hl.1 (kX5_ageOf l g ad V x3 o23 hc23) (cwV 1 hts gX5_isBetter_X5_ageOf rfl rfl rfl (by decide +kernel) ⟨Nat.le_of_ble_eq_true rfl, Nat.le_of_ble_eq_true rfl⟩) rfl hK hP hD hS hA [0, 1, 2, 3, 4, 5, 6, 7, 8, 9, 10, 11, 12, 13, 14, 15, 16, 17, 18, 19] [] [0, 1, 2, 3, 4, 5, 6, 7, 8, 9, 10, 11, 12, 13, 14, 15, 16, 17, 18, 19] rfl rfl rfl rfl rfl (by decide) rfl rfl rfl 0 rfl rfl rfl (Nat.le_of_ble_eq_true rfl) dX5_isBetter_23 ⟨Nat.zero_le _, Nat.zero_le _⟩ rfl (fun H locs hP hD hS => ?_)
  refine lv_istore (lv' := [(7, .int o23), (6, .int o16), (5, .int o9), (4, .int o2), (0, .ref (ad 0)), (1, .int x1), (2, .int x2), (3, .int x3)]) hx hb dX5_isBetter_26 hl (by decide) rfl (fun ls hl => ?_)
  refine lv_iload_n hx hb dX5_isBetter_28 rfl (lv_at hl 5 rfl) ?_
  by_cases c29_0 : x1 = (0 : Int32)
  · replace h := az_pos c29_0 h
    refine lv_lookup (tgt := 56) (off := 27) hx hb dX5_isBetter_29 (by decide +kernel) (by rw [c29_0]; decide) (by decide) ?_
    refine lv_iload hx hb dX5_isBetter_56 (lv_at hl 3 rfl) ?_
    refine lv_iload hx hb dX5_isBetter_58 (lv_at hl 2 rfl) ?_
    refine lv_icmp_ge (tgt := 67) hx hb dX5_isBetter_60 (by decide) (fun c60 => ?_) (fun c60 => ?_)
    · replace h := az_pos c60 h
      refine lv_iconst (v := (0 : Int32)) hx hb dX5_isBetter_67 (by decide) ?_
      have hP : va_P g.1 az_cl (az_cV g ad V) _ := hP
      have hD : va_D A (az_cV g ad V) := hD
      rw [← Option.some.inj h]
      exact az_zret hx hb hr hlocks rfl hK hP hD hS dX5_isBetter_68
    · replace h := az_neg c60 h
      refine lv_iconst (v := (1 : Int32)) hx hb dX5_isBetter_63 (by decide) ?_
      refine lv_goto (tgt := 68) hx hb dX5_isBetter_64 (by decide) ?_
      have hP : va_P g.1 az_cl (az_cV g ad V) _ := hP
      have hD : va_D A (az_cV g ad V) := hD
      rw [← Option.some.inj h]
      exact az_zret hx hb hr hlocks rfl hK hP hD hS dX5_isBetter_68
  · replace h := az_neg c29_0 h
    by_cases c29_1 : x1 = (1 : Int32)
    · replace h := az_pos c29_1 h
      refine lv_lookup (tgt := 69) (off := 40) hx hb dX5_isBetter_29 (by decide +kernel) (by rw [c29_1]; decide) (by decide) ?_
      refine lv_aload_n hx hb dX5_isBetter_69 rfl (lv_at hl 4 rfl) ?_
      refine va_get (D := g.1) (ci := 5) (v := .ref (ad 1)) (C := RX5) (T := TX5) (N := 11) hx hb hts inX5_isBetter_RX5 hown hK hP 0 rfl rfl 0 (Nat.le_of_ble_eq_true rfl) (hts _ (List.mem_of_getElem? (i := 1) rfl)) (fun _ h9 => h9) rfl dX5_isBetter_70 ?_
      refine va_get (D := g.1) (ci := 3) (v := .int ((V 4) 1)) (C := RX3) (T := TX3) (N := 6) hx hb hts inX5_isBetter_RX3 hown hK hP 1 rfl rfl 5 (Nat.le_of_ble_eq_true rfl) (hts _ (List.mem_of_getElem? (i := 2) rfl)) (fun _ h9 => h9) rfl dX5_isBetter_73 ?_
      refine lv_iload hx hb dX5_isBetter_76 (lv_at hl 3 rfl) ?_
      refine lv_isub hx hb dX5_isBetter_78 ?_
      refine lv_i2l (v := (((V 4) 1) - o2).toInt64) hx hb dX5_isBetter_79 rfl ?_
      refine lv_iload hx hb dX5_isBetter_80 (lv_at hl 1 rfl) ?_
      refine lv_i2l (v := o16.toInt64) hx hb dX5_isBetter_82 rfl ?_
      refine lv_lmul hx hb dX5_isBetter_83 ?_
      refine lv_aload_n hx hb dX5_isBetter_84 rfl (lv_at hl 4 rfl) ?_
      refine va_get (D := g.1) (ci := 5) (v := .ref (ad 1)) (C := RX5) (T := TX5) (N := 11) hx hb hts inX5_isBetter_RX5 hown hK hP 0 rfl rfl 0 (Nat.le_of_ble_eq_true rfl) (hts _ (List.mem_of_getElem? (i := 1) rfl)) (fun _ h9 => h9) rfl dX5_isBetter_85 ?_
      refine va_get (D := g.1) (ci := 3) (v := .int ((V 4) 1)) (C := RX3) (T := TX3) (N := 6) hx hb hts inX5_isBetter_RX3 hown hK hP 1 rfl rfl 5 (Nat.le_of_ble_eq_true rfl) (hts _ (List.mem_of_getElem? (i := 2) rfl)) (fun _ h9 => h9) rfl dX5_isBetter_88 ?_
      refine lv_iload hx hb dX5_isBetter_91 (lv_at hl 2 rfl) ?_
      refine lv_iadd hx hb dX5_isBetter_93 ?_
      refine lv_i2l (v := (((V 4) 1) + o9).toInt64) hx hb dX5_isBetter_94 rfl ?_
      refine lv_lmul hx hb dX5_isBetter_95 ?_
      refine lv_aload_n hx hb dX5_isBetter_96 rfl (lv_at hl 4 rfl) ?_
      refine va_get (D := g.1) (ci := 5) (v := .ref (ad 1)) (C := RX5) (T := TX5) (N := 11) hx hb hts inX5_isBetter_RX5 hown hK hP 0 rfl rfl 0 (Nat.le_of_ble_eq_true rfl) (hts _ (List.mem_of_getElem? (i := 1) rfl)) (fun _ h9 => h9) rfl dX5_isBetter_97 ?_
      refine va_get (D := g.1) (ci := 3) (v := .int ((V 4) 1)) (C := RX3) (T := TX3) (N := 6) hx hb hts inX5_isBetter_RX3 hown hK hP 1 rfl rfl 5 (Nat.le_of_ble_eq_true rfl) (hts _ (List.mem_of_getElem? (i := 2) rfl)) (fun _ h9 => h9) rfl dX5_isBetter_100 ?_
      refine lv_iload hx hb dX5_isBetter_103 (lv_at hl 2 rfl) ?_
      refine lv_isub hx hb dX5_isBetter_105 ?_
      refine lv_i2l (v := (((V 4) 1) - o9).toInt64) hx hb dX5_isBetter_106 rfl ?_
      refine lv_iload hx hb dX5_isBetter_107 (lv_at hl 0 rfl) ?_
      refine lv_i2l (v := o23.toInt64) hx hb dX5_isBetter_109 rfl ?_
      refine lv_lmul hx hb dX5_isBetter_110 ?_
      refine lv_aload_n hx hb dX5_isBetter_111 rfl (lv_at hl 4 rfl) ?_
      refine va_get (D := g.1) (ci := 5) (v := .ref (ad 1)) (C := RX5) (T := TX5) (N := 11) hx hb hts inX5_isBetter_RX5 hown hK hP 0 rfl rfl 0 (Nat.le_of_ble_eq_true rfl) (hts _ (List.mem_of_getElem? (i := 1) rfl)) (fun _ h9 => h9) rfl dX5_isBetter_112 ?_
      refine va_get (D := g.1) (ci := 3) (v := .int ((V 4) 1)) (C := RX3) (T := TX3) (N := 6) hx hb hts inX5_isBetter_RX3 hown hK hP 1 rfl rfl 5 (Nat.le_of_ble_eq_true rfl) (hts _ (List.mem_of_getElem? (i := 2) rfl)) (fun _ h9 => h9) rfl dX5_isBetter_115 ?_
      refine lv_iload hx hb dX5_isBetter_118 (lv_at hl 3 rfl) ?_
      refine lv_iadd hx hb dX5_isBetter_120 ?_
      refine lv_i2l (v := (((V 4) 1) + o2).toInt64) hx hb dX5_isBetter_121 rfl ?_
      refine lv_lmul hx hb dX5_isBetter_122 ?_
      refine W.lcmp hx hb dX5_isBetter_123 ?_
      refine lv_if_le (tgt := 131) hx hb dX5_isBetter_124 (by decide) (fun c124 => ?_) (fun c124 => ?_)
      · replace h := az_pos c124 h
        refine lv_iconst (v := (0 : Int32)) hx hb dX5_isBetter_131 (by decide) ?_
        have hP : va_P g.1 az_cl (az_cV g ad V) _ := hP
        have hD : va_D A (az_cV g ad V) := hD
        rw [← Option.some.inj h]
        exact az_zret hx hb hr hlocks rfl hK hP hD hS dX5_isBetter_132
      · replace h := az_neg c124 h
        refine lv_iconst (v := (1 : Int32)) hx hb dX5_isBetter_127 (by decide) ?_
        refine lv_goto (tgt := 132) hx hb dX5_isBetter_128 (by decide) ?_
        have hP : va_P g.1 az_cl (az_cV g ad V) _ := hP
        have hD : va_D A (az_cV g ad V) := hD
        rw [← Option.some.inj h]
        exact az_zret hx hb hr hlocks rfl hK hP hD hS dX5_isBetter_132
    · replace h := az_neg c29_1 h
      refine lv_lookup (tgt := 133) (off := 104) hx hb dX5_isBetter_29 (by decide +kernel) (by rw [lv_osw (k := (0 : Int32)) c29_0 (by decide), lv_osw (k := (1 : Int32)) c29_1 (by decide)]; rfl) (by decide) ?_
      refine lv_iload hx hb dX5_isBetter_133 (lv_at hl 1 rfl) ?_
      refine lv_iload hx hb dX5_isBetter_135 (lv_at hl 0 rfl) ?_
      refine lv_icmp_le (tgt := 144) hx hb dX5_isBetter_137 (by decide) (fun c137 => ?_) (fun c137 => ?_)
      · replace h := az_pos c137 h
        refine lv_iconst (v := (0 : Int32)) hx hb dX5_isBetter_144 (by decide) ?_
        have hP : va_P g.1 az_cl (az_cV g ad V) _ := hP
        have hD : va_D A (az_cV g ad V) := hD
        rw [← Option.some.inj h]
        exact az_zret hx hb hr hlocks rfl hK hP hD hS dX5_isBetter_145
      · replace h := az_neg c137 h
        refine lv_iconst (v := (1 : Int32)) hx hb dX5_isBetter_140 (by decide) ?_
        refine lv_goto (tgt := 145) hx hb dX5_isBetter_141 (by decide) ?_
        have hP : va_P g.1 az_cl (az_cV g ad V) _ := hP
        have hD : va_D A (az_cV g ad V) := hD
        rw [← Option.some.inj h]
        exact az_zret hx hb hr hlocks rfl hK hP hD hS dX5_isBetter_145

def FX5_chooseVictim_L4 : Nat → az_St → Int32 → Int32 → Int32 → Option (Int32)
  | 0, _, _, _, _ => none
  | n + 1, V, x1, y2, y3 => if (V 4) 0 ≤ y3 then (some (y2)) else (if az_in y3 10 = true then if (V 0) y3.toNatClampNeg = (2 : Int32) then ((FX5_useOf V y3).bind (fun o30 => if (V 4) 1 ≤ o30 then (FX5_chooseVictim_L4 n V x1 y2 (y3 + (1 : Int32))) else (if y2 = (-1 : Int32) then (FX5_chooseVictim_L4 n V x1 y3 (y3 + (1 : Int32))) else ((FX5_isBetter V x1 y3 y2).bind (fun o52 => if o52 = (0 : Int32) then (FX5_chooseVictim_L4 n V x1 y2 (y3 + (1 : Int32))) else (FX5_chooseVictim_L4 n V x1 y3 (y3 + (1 : Int32)))))))) else (FX5_chooseVictim_L4 n V x1 y2 (y3 + (1 : Int32))) else none)
theorem FX5_chooseVictim_L4_s (n : Nat) (V : az_St) (x1 : Int32) (y2 : Int32) (y3 : Int32) : FX5_chooseVictim_L4 (n + 1) V x1 y2 y3 = (if (V 4) 0 ≤ y3 then (some (y2)) else (if az_in y3 10 = true then if (V 0) y3.toNatClampNeg = (2 : Int32) then ((FX5_useOf V y3).bind (fun o30 => if (V 4) 1 ≤ o30 then (FX5_chooseVictim_L4 n V x1 y2 (y3 + (1 : Int32))) else (if y2 = (-1 : Int32) then (FX5_chooseVictim_L4 n V x1 y3 (y3 + (1 : Int32))) else ((FX5_isBetter V x1 y3 y2).bind (fun o52 => if o52 = (0 : Int32) then (FX5_chooseVictim_L4 n V x1 y2 (y3 + (1 : Int32))) else (FX5_chooseVictim_L4 n V x1 y3 (y3 + (1 : Int32)))))))) else (FX5_chooseVictim_L4 n V x1 y2 (y3 + (1 : Int32))) else none)) := rfl
def FX5_chooseVictim (V : az_St) (x1 : Int32) : Option (Int32) := FX5_chooseVictim_L4 az_fuel V x1 (-1 : Int32) (0 : Int32)
theorem inX5_chooseVictim_RX3 : ∀ w ∈ wsX30, w ∈ wsX5_chooseVictim := az_inr [50, 51, 52, 53, 54, 55] (by decide +kernel)
theorem inX5_chooseVictim_RX5 : ∀ w ∈ wsX50, w ∈ wsX5_chooseVictim := az_inr [39, 40, 41, 42, 43, 44, 45, 46, 47, 48, 49] (by decide +kernel)
set_option maxHeartbeats 4000000 in
set_option maxRecDepth 100000 in
theorem kX5_chooseVictim (l : Launch) (g : az_G) (ad : Nat → Nat) (V : az_St) (x1 : Int32) (o : Int32) (h : FX5_chooseVictim V x1 = some o) : az_I l yX5_chooseVictim wsX5_chooseVictim ({ frames := 4, cells := 0, slots := 0, locals := 114 } : Room) [.ref (ad 0), .int x1] g (az_cV g ad V) o (az_cV g ad V) := by
  refine az_body (cc := cX5_chooseVictim) (maxL := 4) (ret := (some .int)) (Qc := fun A => az_QI g (az_cV g ad V) o A) (by decide +kernel) rfl (Nat.le_of_ble_eq_true rfl) ?_
  intro p e s m args below meth c A hx hb hr hts hown hml hlocks hA hK hP hD hS ls hl
  have hl : lv_has ls 4 [(0, .ref (ad 0)), (1, .int x1)] := hl
  unfold FX5_chooseVictim at h
  have hL4 : ∀ (n : Nat) (y2 : Int32) (y3 : Int32) (H : Heap) (locs : List Loc) (ls : Array Slot), FX5_chooseVictim_L4 n V x1 y2 y3 = some o → va_P g.1 az_cl (az_cV g ad V) H → va_D A (az_cV g ad V) → va_S A s.heap H locs → lv_has ls 4 [(0, .ref (ad 0)), (1, .int x1), (2, .int y2), (3, .int y3)] → W p l e ({ frames := 4, cells := 0, slots := 0, locals := 114 } : Room) s m args below meth c H locs 0 0 (MQ below (az_QI g (az_cV g ad V) o A) args s 0 0 A) (F0 m 4 ls []) := by
    intro n
    induction n with
    | zero => intro y2 y3 H locs ls h; exact az_non h
    | succ n ih =>
      intro y2 y3 H locs ls h hP hD hS hl
      rw [FX5_chooseVictim_L4_s] at h
      refine lv_iload_n hx hb dX5_chooseVictim_4 rfl (lv_at hl 3 rfl) ?_
      refine lv_aload_n hx hb dX5_chooseVictim_5 rfl (lv_at hl 0 rfl) ?_
      refine va_get (D := g.1) (ci := 5) (v := .ref (ad 1)) (C := RX5) (T := TX5) (N := 11) hx hb hts inX5_chooseVictim_RX5 hown hK hP 0 rfl rfl 0 (Nat.le_of_ble_eq_true rfl) (hts _ (List.mem_of_getElem? (i := 1) rfl)) (fun _ h9 => h9) rfl dX5_chooseVictim_6 ?_
      refine va_get (D := g.1) (ci := 3) (v := .int ((V 4) 0)) (C := RX3) (T := TX3) (N := 6) hx hb hts inX5_chooseVictim_RX3 hown hK hP 1 rfl rfl 4 (Nat.le_of_ble_eq_true rfl) (hts _ (List.mem_of_getElem? (i := 2) rfl)) (fun _ h9 => h9) rfl dX5_chooseVictim_9 ?_
      refine lv_icmp_ge (tgt := 66) hx hb dX5_chooseVictim_12 (by decide) (fun c12 => ?_) (fun c12 => ?_)
      · replace h := az_pos c12 h
        refine lv_iload_n hx hb dX5_chooseVictim_66 rfl (lv_at hl 2 rfl) ?_
        have hP : va_P g.1 az_cl (az_cV g ad V) _ := hP
        have hD : va_D A (az_cV g ad V) := hD
        rw [← Option.some.inj h]
        exact az_iret hx hb hr hlocks hK hP hD hS dX5_chooseVictim_67
      · replace h := az_neg c12 h
        refine lv_aload_n hx hb dX5_chooseVictim_15 rfl (lv_at hl 0 rfl) ?_
        refine va_get (D := g.1) (ci := 5) (v := .ref (ad 1)) (C := RX5) (T := TX5) (N := 11) hx hb hts inX5_chooseVictim_RX5 hown hK hP 0 rfl rfl 0 (Nat.le_of_ble_eq_true rfl) (hts _ (List.mem_of_getElem? (i := 1) rfl)) (fun _ h9 => h9) rfl dX5_chooseVictim_16 ?_
        refine va_get (D := g.1) (ci := 3) (v := .ref (ad 2)) (C := RX3) (T := TX3) (N := 6) hx hb hts inX5_chooseVictim_RX3 hown hK hP 1 rfl rfl 0 (Nat.le_of_ble_eq_true rfl) (hts _ (List.mem_of_getElem? (i := 3) rfl)) (fun _ h9 => h9) rfl dX5_chooseVictim_19 ?_
        refine lv_iload_n hx hb dX5_chooseVictim_22 rfl (lv_at hl 3 rfl) ?_
        obtain ⟨i23, h⟩ := az_ite h
        refine va_iald (D := g.1) (f := (V 0)) hx hb hK hP 2 0 rfl rfl (az_vin i23) dX5_chooseVictim_23 ?_
        refine lv_iconst (v := (2 : Int32)) hx hb dX5_chooseVictim_24 (by decide) ?_
        refine lv_icmp_ne (tgt := 60) hx hb dX5_chooseVictim_25 (by decide) (fun c25 => ?_) (fun c25 => ?_)
        · replace h := az_neg c25 h
          refine lv_iinc (v := y3 + (1 : Int32)) (lv' := [(3, .int (y3 + (1 : Int32))), (0, .ref (ad 0)), (1, .int x1), (2, .int y2)]) hx hb dX5_chooseVictim_60 hl (k := 3) rfl (rfl) (by decide) rfl (fun ls hl => ?_)
          refine lv_goto (tgt := 4) hx hb dX5_chooseVictim_63 (by decide) ?_
          have hP : va_P g.1 az_cl (az_cV g ad V) _ := hP
          have hD : va_D A (az_cV g ad V) := hD
          exact ih y2 (y3 + (1 : Int32)) _ _ ls h hP hD hS (lv_sub hl [1, 2, 3, 0] rfl)
        · replace h := az_pos c25 h
          refine lv_aload_n hx hb dX5_chooseVictim_28 rfl (lv_at hl 0 rfl) ?_
          refine lv_iload_n hx hb dX5_chooseVictim_29 rfl (lv_at hl 3 rfl) ?_
          obtain ⟨o30, hc30, h⟩ := az_bnd h
          refine az_callVi (w2 := az_cV g ad V) (As := [.int y3]) (rest := []) ⟨hx, hb, hml, hown, hts⟩ hl.1 (kX5_useOf l g ad V y3 o30 hc30) (cwV 1 hts gX5_chooseVictim_X5_useOf rfl rfl rfl (by decide +kernel) ⟨Nat.le_of_ble_eq_true rfl, Nat.le_of_ble_eq_true rfl⟩) rfl hK hP hD hS hA [0, 1, 2, 3, 4, 5, 6, 7, 8, 9, 10, 11, 12, 13, 14, 15, 16, 17, 18, 19] [] [0, 1, 2, 3, 4, 5, 6, 7, 8, 9, 10, 11, 12, 13, 14, 15, 16, 17, 18, 19] rfl rfl rfl rfl rfl (by decide) rfl rfl rfl 0 rfl rfl rfl (Nat.le_of_ble_eq_true rfl) dX5_chooseVictim_30 ⟨Nat.zero_le _, Nat.zero_le _⟩ rfl (fun H locs hP hD hS => ?_)
          refine lv_aload_n hx hb dX5_chooseVictim_33 rfl (lv_at hl 0 rfl) ?_
          refine va_get (D := g.1) (ci := 5) (v := .ref (ad 1)) (C := RX5) (T := TX5) (N := 11) hx hb hts inX5_chooseVictim_RX5 hown hK hP 0 rfl rfl 0 (Nat.le_of_ble_eq_true rfl) (hts _ (List.mem_of_getElem? (i := 1) rfl)) (fun _ h9 => h9) rfl dX5_chooseVictim_34 ?_
          refine va_get (D := g.1) (ci := 3) (v := .int ((V 4) 1)) (C := RX3) (T := TX3) (N := 6) hx hb hts inX5_chooseVictim_RX3 hown hK hP 1 rfl rfl 5 (Nat.le_of_ble_eq_true rfl) (hts _ (List.mem_of_getElem? (i := 4) rfl)) (fun _ h9 => h9) rfl dX5_chooseVictim_37 ?_
          refine lv_icmp_ge (tgt := 60) hx hb dX5_chooseVictim_40 (by decide) (fun c40 => ?_) (fun c40 => ?_)
          · replace h := az_pos c40 h
            refine lv_iinc (v := y3 + (1 : Int32)) (lv' := [(3, .int (y3 + (1 : Int32))), (0, .ref (ad 0)), (1, .int x1), (2, .int y2)]) hx hb dX5_chooseVictim_60 hl (k := 3) rfl (rfl) (by decide) rfl (fun ls hl => ?_)
            refine lv_goto (tgt := 4) hx hb dX5_chooseVictim_63 (by decide) ?_
            have hP : va_P g.1 az_cl (az_cV g ad V) _ := hP
            have hD : va_D A (az_cV g ad V) := hD
            exact ih y2 (y3 + (1 : Int32)) _ _ ls h hP hD hS (lv_sub hl [1, 2, 3, 0] rfl)
          · replace h := az_neg c40 h
            refine lv_iload_n hx hb dX5_chooseVictim_43 rfl (lv_at hl 2 rfl) ?_
            refine lv_iconst (v := (-1 : Int32)) hx hb dX5_chooseVictim_44 (by decide) ?_
            refine lv_icmp_eq (tgt := 58) hx hb dX5_chooseVictim_45 (by decide) (fun c45 => ?_) (fun c45 => ?_)
            · replace h := az_pos c45 h
              refine lv_iload_n hx hb dX5_chooseVictim_58 rfl (lv_at hl 3 rfl) ?_
              refine lv_istore_n (lv' := [(2, .int y3), (0, .ref (ad 0)), (1, .int x1), (3, .int y3)]) hx hb dX5_chooseVictim_59 rfl hl (by decide) rfl (fun ls hl => ?_)
              refine lv_iinc (v := y3 + (1 : Int32)) (lv' := [(3, .int (y3 + (1 : Int32))), (2, .int y3), (0, .ref (ad 0)), (1, .int x1)]) hx hb dX5_chooseVictim_60 hl (k := 3) rfl (rfl) (by decide) rfl (fun ls hl => ?_)
              refine lv_goto (tgt := 4) hx hb dX5_chooseVictim_63 (by decide) ?_
              have hP : va_P g.1 az_cl (az_cV g ad V) _ := hP
              have hD : va_D A (az_cV g ad V) := hD
              exact ih y3 (y3 + (1 : Int32)) _ _ ls h hP hD hS (lv_sub hl [2, 3, 1, 0] rfl)
            · replace h := az_neg c45 h
              refine lv_aload_n hx hb dX5_chooseVictim_48 rfl (lv_at hl 0 rfl) ?_
              refine lv_iload_n hx hb dX5_chooseVictim_49 rfl (lv_at hl 1 rfl) ?_
              refine lv_iload_n hx hb dX5_chooseVictim_50 rfl (lv_at hl 3 rfl) ?_
              refine lv_iload_n hx hb dX5_chooseVictim_51 rfl (lv_at hl 2 rfl) ?_
              obtain ⟨o52, hc52, h⟩ := az_bnd h
              refine az_callVi (w2 := az_cV g ad V) (As := [.int x1, .int y3, .int y2]) (rest := []) ⟨hx, hb, hml, hown, hts⟩ hl.1 (kX5_isBetter l g ad V x1 y3 y2 o52 hc52) (cwV 3 hts gX5_chooseVictim_X5_isBetter rfl rfl rfl (by decide +kernel) ⟨Nat.le_of_ble_eq_true rfl, Nat.le_of_ble_eq_true rfl⟩) rfl hK hP hD hS hA [0, 1, 2, 3, 4, 5, 6, 7, 8, 9, 10, 11, 12, 13, 14, 15, 16, 17, 18, 19] [] [0, 1, 2, 3, 4, 5, 6, 7, 8, 9, 10, 11, 12, 13, 14, 15, 16, 17, 18, 19] rfl rfl rfl rfl rfl (by decide) rfl rfl rfl 0 rfl rfl rfl (Nat.le_of_ble_eq_true rfl) dX5_chooseVictim_52 ⟨Nat.zero_le _, Nat.zero_le _⟩ rfl (fun H locs hP hD hS => ?_)
              refine lv_if_eq (tgt := 60) hx hb dX5_chooseVictim_55 (by decide) (fun c55 => ?_) (fun c55 => ?_)
              · replace h := az_pos c55 h
                refine lv_iinc (v := y3 + (1 : Int32)) (lv' := [(3, .int (y3 + (1 : Int32))), (0, .ref (ad 0)), (1, .int x1), (2, .int y2)]) hx hb dX5_chooseVictim_60 hl (k := 3) rfl (rfl) (by decide) rfl (fun ls hl => ?_)
                refine lv_goto (tgt := 4) hx hb dX5_chooseVictim_63 (by decide) ?_
                have hP : va_P g.1 az_cl (az_cV g ad V) _ := hP
                have hD : va_D A (az_cV g ad V) := hD
                exact ih y2 (y3 + (1 : Int32)) _ _ ls h hP hD hS (lv_sub hl [1, 2, 3, 0] rfl)
              · replace h := az_neg c55 h
                refine lv_iload_n hx hb dX5_chooseVictim_58 rfl (lv_at hl 3 rfl) ?_
                refine lv_istore_n (lv' := [(2, .int y3), (0, .ref (ad 0)), (1, .int x1), (3, .int y3)]) hx hb dX5_chooseVictim_59 rfl hl (by decide) rfl (fun ls hl => ?_)
                refine lv_iinc (v := y3 + (1 : Int32)) (lv' := [(3, .int (y3 + (1 : Int32))), (2, .int y3), (0, .ref (ad 0)), (1, .int x1)]) hx hb dX5_chooseVictim_60 hl (k := 3) rfl (rfl) (by decide) rfl (fun ls hl => ?_)
                refine lv_goto (tgt := 4) hx hb dX5_chooseVictim_63 (by decide) ?_
                have hP : va_P g.1 az_cl (az_cV g ad V) _ := hP
                have hD : va_D A (az_cV g ad V) := hD
                exact ih y3 (y3 + (1 : Int32)) _ _ ls h hP hD hS (lv_sub hl [2, 3, 1, 0] rfl)
  refine lv_iconst (v := (-1 : Int32)) hx hb dX5_chooseVictim_0 (by decide) ?_
  refine lv_istore_n (lv' := [(2, .int (-1 : Int32)), (0, .ref (ad 0)), (1, .int x1)]) hx hb dX5_chooseVictim_1 rfl hl (by decide) rfl (fun ls hl => ?_)
  refine lv_iconst (v := (0 : Int32)) hx hb dX5_chooseVictim_2 (by decide) ?_
  refine lv_istore_n (lv' := [(3, .int (0 : Int32)), (2, .int (-1 : Int32)), (0, .ref (ad 0)), (1, .int x1)]) hx hb dX5_chooseVictim_3 rfl hl (by decide) rfl (fun ls hl => ?_)
  have hP : va_P g.1 az_cl (az_cV g ad V) _ := hP
  have hD : va_D A (az_cV g ad V) := hD
  exact hL4 az_fuel (-1 : Int32) (0 : Int32) _ _ ls h hP hD hS (lv_sub hl [2, 3, 1, 0] rfl)

def FX5_relocateUntilRoom_L2 : Nat → az_St → Int32 → Int32 → (Nat → Int32) → (Nat → Int32) → (Nat → Int32) → (Nat → Int32) → (Nat → Int32) → (Nat → Int32) → (Nat → Int32) → (Nat → Int32) → (Nat → Int32) → (Nat → Int32) → (Nat → Int32) → (Nat → Int32) → (Nat → Int32) → Int32 → Option (Int32 × (Nat → Int32) × (Nat → Int32) × (Nat → Int32) × (Nat → Int32) × (Nat → Int32) × (Nat → Int32) × (Nat → Int32) × (Nat → Int32) × (Nat → Int32) × (Nat → Int32) × (Nat → Int32) × (Nat → Int32) × (Nat → Int32))
  | 0, _, _, _, _, _, _, _, _, _, _, _, _, _, _, _, _, _ => none
  | n + 1, V, x1, x2, wV0, wV1, wV2, wV3, wV5, wV6, wV7, wV8, wV9, wV10, wV14, wV15, wV16, y3 => if (20 : Int32) < y3 then (some ((-1 : Int32), wV0, wV1, wV2, wV3, wV5, wV6, wV7, wV8, wV9, wV10, wV14, wV15, wV16)) else ((FX5_regain (va_up (va_up (va_up (va_up (va_up (va_up (va_up (va_up (va_up (va_up (va_up (va_up (va_up V 0 wV0) 1 wV1) 2 wV2) 3 wV3) 5 wV5) 6 wV6) 7 wV7) 8 wV8) 9 wV9) 10 wV10) 14 wV14) 15 wV15) 16 (upd wV16 1 ((wV16 1) + (2 : Int32))))).bind (fun o19 => (FX5_roomForWrites (va_up (va_up (va_up (va_up (va_up (va_up (va_up (va_up (va_up (va_up (va_up (va_up (va_up V 0 o19.2.1) 1 o19.2.2.1) 2 o19.2.2.2.1) 3 wV3) 5 o19.2.2.2.2.1) 6 o19.2.2.2.2.2.1) 7 o19.2.2.2.2.2.2.1) 8 o19.2.2.2.2.2.2.2.1) 9 o19.2.2.2.2.2.2.2.2.1) 10 o19.2.2.2.2.2.2.2.2.2) 14 wV14) 15 wV15) 16 (upd wV16 1 ((wV16 1) + (2 : Int32))))).bind (fun o24 => if o24 < x2 then ((FX5_chooseVictim (va_up (va_up (va_up (va_up (va_up (va_up (va_up (va_up (va_up (va_up (va_up (va_up (va_up V 0 o19.2.1) 1 o19.2.2.1) 2 o19.2.2.2.1) 3 wV3) 5 o19.2.2.2.2.1) 6 o19.2.2.2.2.2.1) 7 o19.2.2.2.2.2.2.1) 8 o19.2.2.2.2.2.2.2.1) 9 o19.2.2.2.2.2.2.2.2.1) 10 o19.2.2.2.2.2.2.2.2.2) 14 wV14) 15 wV15) 16 (upd wV16 1 ((wV16 1) + (2 : Int32)))) x1).bind (fun o35 => if o35 = (-1 : Int32) then (some ((-1 : Int32), o19.2.1, o19.2.2.1, o19.2.2.2.1, wV3, o19.2.2.2.2.1, o19.2.2.2.2.2.1, o19.2.2.2.2.2.2.1, o19.2.2.2.2.2.2.2.1, o19.2.2.2.2.2.2.2.2.1, o19.2.2.2.2.2.2.2.2.2, wV14, wV15, upd wV16 1 ((wV16 1) + (2 : Int32)))) else ((FX5_useOf (va_up (va_up (va_up (va_up (va_up (va_up (va_up (va_up (va_up (va_up (va_up (va_up (va_up V 0 o19.2.1) 1 o19.2.2.1) 2 o19.2.2.2.1) 3 wV3) 5 o19.2.2.2.2.1) 6 o19.2.2.2.2.2.1) 7 o19.2.2.2.2.2.2.1) 8 o19.2.2.2.2.2.2.2.1) 9 o19.2.2.2.2.2.2.2.2.1) 10 o19.2.2.2.2.2.2.2.2.2) 14 wV14) 15 wV15) 16 (upd wV16 1 ((wV16 1) + (2 : Int32)))) o35).bind (fun o49 => (FX5_roomForRelocation (va_up (va_up (va_up (va_up (va_up (va_up (va_up (va_up (va_up (va_up (va_up (va_up (va_up V 0 o19.2.1) 1 o19.2.2.1) 2 o19.2.2.2.1) 3 wV3) 5 o19.2.2.2.2.1) 6 o19.2.2.2.2.2.1) 7 o19.2.2.2.2.2.2.1) 8 o19.2.2.2.2.2.2.2.1) 9 o19.2.2.2.2.2.2.2.2.1) 10 o19.2.2.2.2.2.2.2.2.2) 14 wV14) 15 wV15) 16 (upd wV16 1 ((wV16 1) + (2 : Int32))))).bind (fun o53 => if o49 ≤ o53 then ((FX5_moveAll (va_up (va_up (va_up (va_up (va_up (va_up (va_up (va_up (va_up (va_up (va_up (va_up (va_up V 0 o19.2.1) 1 o19.2.2.1) 2 o19.2.2.2.1) 3 wV3) 5 o19.2.2.2.2.1) 6 o19.2.2.2.2.2.1) 7 o19.2.2.2.2.2.2.1) 8 o19.2.2.2.2.2.2.2.1) 9 o19.2.2.2.2.2.2.2.2.1) 10 o19.2.2.2.2.2.2.2.2.2) 14 wV14) 15 wV15) 16 (upd wV16 1 ((wV16 1) + (2 : Int32)))) o35).bind (fun o64 => FX5_relocateUntilRoom_L2 n V x1 x2 o64.2.1 o19.2.2.1 o64.2.2.1 o64.2.2.2.1 o64.2.2.2.2.1 o64.2.2.2.2.2.1 o64.2.2.2.2.2.2.1 o64.2.2.2.2.2.2.2.1 o64.2.2.2.2.2.2.2.2.1 o19.2.2.2.2.2.2.2.2.2 o64.2.2.2.2.2.2.2.2.2.1 o64.2.2.2.2.2.2.2.2.2.2.1 o64.2.2.2.2.2.2.2.2.2.2.2 (y3 + (1 : Int32)))) else (some ((-1 : Int32), o19.2.1, o19.2.2.1, o19.2.2.2.1, wV3, o19.2.2.2.2.1, o19.2.2.2.2.2.1, o19.2.2.2.2.2.2.1, o19.2.2.2.2.2.2.2.1, o19.2.2.2.2.2.2.2.2.1, o19.2.2.2.2.2.2.2.2.2, wV14, wV15, upd wV16 1 ((wV16 1) + (2 : Int32))))))))) else (some (y3, o19.2.1, o19.2.2.1, o19.2.2.2.1, wV3, o19.2.2.2.2.1, o19.2.2.2.2.2.1, o19.2.2.2.2.2.2.1, o19.2.2.2.2.2.2.2.1, o19.2.2.2.2.2.2.2.2.1, o19.2.2.2.2.2.2.2.2.2, wV14, wV15, upd wV16 1 ((wV16 1) + (2 : Int32)))))))
theorem FX5_relocateUntilRoom_L2_s (n : Nat) (V : az_St) (x1 : Int32) (x2 : Int32) (wV0 : Nat → Int32) (wV1 : Nat → Int32) (wV2 : Nat → Int32) (wV3 : Nat → Int32) (wV5 : Nat → Int32) (wV6 : Nat → Int32) (wV7 : Nat → Int32) (wV8 : Nat → Int32) (wV9 : Nat → Int32) (wV10 : Nat → Int32) (wV14 : Nat → Int32) (wV15 : Nat → Int32) (wV16 : Nat → Int32) (y3 : Int32) : FX5_relocateUntilRoom_L2 (n + 1) V x1 x2 wV0 wV1 wV2 wV3 wV5 wV6 wV7 wV8 wV9 wV10 wV14 wV15 wV16 y3 = (if (20 : Int32) < y3 then (some ((-1 : Int32), wV0, wV1, wV2, wV3, wV5, wV6, wV7, wV8, wV9, wV10, wV14, wV15, wV16)) else ((FX5_regain (va_up (va_up (va_up (va_up (va_up (va_up (va_up (va_up (va_up (va_up (va_up (va_up (va_up V 0 wV0) 1 wV1) 2 wV2) 3 wV3) 5 wV5) 6 wV6) 7 wV7) 8 wV8) 9 wV9) 10 wV10) 14 wV14) 15 wV15) 16 (upd wV16 1 ((wV16 1) + (2 : Int32))))).bind (fun o19 => (FX5_roomForWrites (va_up (va_up (va_up (va_up (va_up (va_up (va_up (va_up (va_up (va_up (va_up (va_up (va_up V 0 o19.2.1) 1 o19.2.2.1) 2 o19.2.2.2.1) 3 wV3) 5 o19.2.2.2.2.1) 6 o19.2.2.2.2.2.1) 7 o19.2.2.2.2.2.2.1) 8 o19.2.2.2.2.2.2.2.1) 9 o19.2.2.2.2.2.2.2.2.1) 10 o19.2.2.2.2.2.2.2.2.2) 14 wV14) 15 wV15) 16 (upd wV16 1 ((wV16 1) + (2 : Int32))))).bind (fun o24 => if o24 < x2 then ((FX5_chooseVictim (va_up (va_up (va_up (va_up (va_up (va_up (va_up (va_up (va_up (va_up (va_up (va_up (va_up V 0 o19.2.1) 1 o19.2.2.1) 2 o19.2.2.2.1) 3 wV3) 5 o19.2.2.2.2.1) 6 o19.2.2.2.2.2.1) 7 o19.2.2.2.2.2.2.1) 8 o19.2.2.2.2.2.2.2.1) 9 o19.2.2.2.2.2.2.2.2.1) 10 o19.2.2.2.2.2.2.2.2.2) 14 wV14) 15 wV15) 16 (upd wV16 1 ((wV16 1) + (2 : Int32)))) x1).bind (fun o35 => if o35 = (-1 : Int32) then (some ((-1 : Int32), o19.2.1, o19.2.2.1, o19.2.2.2.1, wV3, o19.2.2.2.2.1, o19.2.2.2.2.2.1, o19.2.2.2.2.2.2.1, o19.2.2.2.2.2.2.2.1, o19.2.2.2.2.2.2.2.2.1, o19.2.2.2.2.2.2.2.2.2, wV14, wV15, upd wV16 1 ((wV16 1) + (2 : Int32)))) else ((FX5_useOf (va_up (va_up (va_up (va_up (va_up (va_up (va_up (va_up (va_up (va_up (va_up (va_up (va_up V 0 o19.2.1) 1 o19.2.2.1) 2 o19.2.2.2.1) 3 wV3) 5 o19.2.2.2.2.1) 6 o19.2.2.2.2.2.1) 7 o19.2.2.2.2.2.2.1) 8 o19.2.2.2.2.2.2.2.1) 9 o19.2.2.2.2.2.2.2.2.1) 10 o19.2.2.2.2.2.2.2.2.2) 14 wV14) 15 wV15) 16 (upd wV16 1 ((wV16 1) + (2 : Int32)))) o35).bind (fun o49 => (FX5_roomForRelocation (va_up (va_up (va_up (va_up (va_up (va_up (va_up (va_up (va_up (va_up (va_up (va_up (va_up V 0 o19.2.1) 1 o19.2.2.1) 2 o19.2.2.2.1) 3 wV3) 5 o19.2.2.2.2.1) 6 o19.2.2.2.2.2.1) 7 o19.2.2.2.2.2.2.1) 8 o19.2.2.2.2.2.2.2.1) 9 o19.2.2.2.2.2.2.2.2.1) 10 o19.2.2.2.2.2.2.2.2.2) 14 wV14) 15 wV15) 16 (upd wV16 1 ((wV16 1) + (2 : Int32))))).bind (fun o53 => if o49 ≤ o53 then ((FX5_moveAll (va_up (va_up (va_up (va_up (va_up (va_up (va_up (va_up (va_up (va_up (va_up (va_up (va_up V 0 o19.2.1) 1 o19.2.2.1) 2 o19.2.2.2.1) 3 wV3) 5 o19.2.2.2.2.1) 6 o19.2.2.2.2.2.1) 7 o19.2.2.2.2.2.2.1) 8 o19.2.2.2.2.2.2.2.1) 9 o19.2.2.2.2.2.2.2.2.1) 10 o19.2.2.2.2.2.2.2.2.2) 14 wV14) 15 wV15) 16 (upd wV16 1 ((wV16 1) + (2 : Int32)))) o35).bind (fun o64 => FX5_relocateUntilRoom_L2 n V x1 x2 o64.2.1 o19.2.2.1 o64.2.2.1 o64.2.2.2.1 o64.2.2.2.2.1 o64.2.2.2.2.2.1 o64.2.2.2.2.2.2.1 o64.2.2.2.2.2.2.2.1 o64.2.2.2.2.2.2.2.2.1 o19.2.2.2.2.2.2.2.2.2 o64.2.2.2.2.2.2.2.2.2.1 o64.2.2.2.2.2.2.2.2.2.2.1 o64.2.2.2.2.2.2.2.2.2.2.2 (y3 + (1 : Int32)))) else (some ((-1 : Int32), o19.2.1, o19.2.2.1, o19.2.2.2.1, wV3, o19.2.2.2.2.1, o19.2.2.2.2.2.1, o19.2.2.2.2.2.2.1, o19.2.2.2.2.2.2.2.1, o19.2.2.2.2.2.2.2.2.1, o19.2.2.2.2.2.2.2.2.2, wV14, wV15, upd wV16 1 ((wV16 1) + (2 : Int32))))))))) else (some (y3, o19.2.1, o19.2.2.1, o19.2.2.2.1, wV3, o19.2.2.2.2.1, o19.2.2.2.2.2.1, o19.2.2.2.2.2.2.1, o19.2.2.2.2.2.2.2.1, o19.2.2.2.2.2.2.2.2.1, o19.2.2.2.2.2.2.2.2.2, wV14, wV15, upd wV16 1 ((wV16 1) + (2 : Int32)))))))) := rfl
def FX5_relocateUntilRoom (V : az_St) (x1 : Int32) (x2 : Int32) : Option (Int32 × (Nat → Int32) × (Nat → Int32) × (Nat → Int32) × (Nat → Int32) × (Nat → Int32) × (Nat → Int32) × (Nat → Int32) × (Nat → Int32) × (Nat → Int32) × (Nat → Int32) × (Nat → Int32) × (Nat → Int32) × (Nat → Int32)) := FX5_relocateUntilRoom_L2 az_fuel V x1 x2 (V 0) (V 1) (V 2) (V 3) (V 5) (V 6) (V 7) (V 8) (V 9) (V 10) (V 14) (V 15) (V 16) (0 : Int32)
theorem inX5_relocateUntilRoom_RX5 : ∀ w ∈ wsX50, w ∈ wsX5_relocateUntilRoom := az_inr [138, 139, 140, 141, 142, 143, 144, 145, 146, 147, 148] (by decide +kernel)
set_option maxHeartbeats 4000000 in
set_option maxRecDepth 100000 in
theorem kX5_relocateUntilRoom (l : Launch) (g : az_G) (ad : Nat → Nat) (V : az_St) (x1 : Int32) (x2 : Int32) (o : Int32 × (Nat → Int32) × (Nat → Int32) × (Nat → Int32) × (Nat → Int32) × (Nat → Int32) × (Nat → Int32) × (Nat → Int32) × (Nat → Int32) × (Nat → Int32) × (Nat → Int32) × (Nat → Int32) × (Nat → Int32) × (Nat → Int32)) (h : FX5_relocateUntilRoom V x1 x2 = some o) : az_I l yX5_relocateUntilRoom wsX5_relocateUntilRoom ({ frames := 5, cells := 0, slots := 0, locals := 137 } : Room) [.ref (ad 0), .int x1, .int x2] g (az_cV g ad V) o.1 (az_cV g ad (va_up (va_up (va_up (va_up (va_up (va_up (va_up (va_up (va_up (va_up (va_up (va_up (va_up V 0 o.2.1) 1 o.2.2.1) 2 o.2.2.2.1) 3 o.2.2.2.2.1) 5 o.2.2.2.2.2.1) 6 o.2.2.2.2.2.2.1) 7 o.2.2.2.2.2.2.2.1) 8 o.2.2.2.2.2.2.2.2.1) 9 o.2.2.2.2.2.2.2.2.2.1) 10 o.2.2.2.2.2.2.2.2.2.2.1) 14 o.2.2.2.2.2.2.2.2.2.2.2.1) 15 o.2.2.2.2.2.2.2.2.2.2.2.2.1) 16 o.2.2.2.2.2.2.2.2.2.2.2.2.2)) := by
  refine az_body (cc := cX5_relocateUntilRoom) (maxL := 5) (ret := (some .int)) (Qc := fun A => az_QI g (az_cV g ad (va_up (va_up (va_up (va_up (va_up (va_up (va_up (va_up (va_up (va_up (va_up (va_up (va_up V 0 o.2.1) 1 o.2.2.1) 2 o.2.2.2.1) 3 o.2.2.2.2.1) 5 o.2.2.2.2.2.1) 6 o.2.2.2.2.2.2.1) 7 o.2.2.2.2.2.2.2.1) 8 o.2.2.2.2.2.2.2.2.1) 9 o.2.2.2.2.2.2.2.2.2.1) 10 o.2.2.2.2.2.2.2.2.2.2.1) 14 o.2.2.2.2.2.2.2.2.2.2.2.1) 15 o.2.2.2.2.2.2.2.2.2.2.2.2.1) 16 o.2.2.2.2.2.2.2.2.2.2.2.2.2)) o.1 A) (by decide +kernel) rfl (Nat.le_of_ble_eq_true rfl) ?_
  intro p e s m args below meth c A hx hb hr hts hown hml hlocks hA hK hP hD hS ls hl
  have hl : lv_has ls 5 [(0, .ref (ad 0)), (1, .int x1), (2, .int x2)] := hl
  unfold FX5_relocateUntilRoom at h
  have hL2 : ∀ (n : Nat) (wV0 : Nat → Int32) (wV1 : Nat → Int32) (wV2 : Nat → Int32) (wV3 : Nat → Int32) (wV5 : Nat → Int32) (wV6 : Nat → Int32) (wV7 : Nat → Int32) (wV8 : Nat → Int32) (wV9 : Nat → Int32) (wV10 : Nat → Int32) (wV14 : Nat → Int32) (wV15 : Nat → Int32) (wV16 : Nat → Int32) (y3 : Int32) (H : Heap) (locs : List Loc) (ls : Array Slot), FX5_relocateUntilRoom_L2 n V x1 x2 wV0 wV1 wV2 wV3 wV5 wV6 wV7 wV8 wV9 wV10 wV14 wV15 wV16 y3 = some o → va_P g.1 az_cl (az_cV g ad (va_up (va_up (va_up (va_up (va_up (va_up (va_up (va_up (va_up (va_up (va_up (va_up (va_up V 0 wV0) 1 wV1) 2 wV2) 3 wV3) 5 wV5) 6 wV6) 7 wV7) 8 wV8) 9 wV9) 10 wV10) 14 wV14) 15 wV15) 16 wV16)) H → va_D A (az_cV g ad (va_up (va_up (va_up (va_up (va_up (va_up (va_up (va_up (va_up (va_up (va_up (va_up (va_up V 0 wV0) 1 wV1) 2 wV2) 3 wV3) 5 wV5) 6 wV6) 7 wV7) 8 wV8) 9 wV9) 10 wV10) 14 wV14) 15 wV15) 16 wV16)) → va_S A s.heap H locs → lv_has ls 5 [(0, .ref (ad 0)), (1, .int x1), (2, .int x2), (3, .int y3)] → W p l e ({ frames := 5, cells := 0, slots := 0, locals := 137 } : Room) s m args below meth c H locs 0 0 (MQ below (az_QI g (az_cV g ad (va_up (va_up (va_up (va_up (va_up (va_up (va_up (va_up (va_up (va_up (va_up (va_up (va_up V 0 o.2.1) 1 o.2.2.1) 2 o.2.2.2.1) 3 o.2.2.2.2.1) 5 o.2.2.2.2.2.1) 6 o.2.2.2.2.2.2.1) 7 o.2.2.2.2.2.2.2.1) 8 o.2.2.2.2.2.2.2.2.1) 9 o.2.2.2.2.2.2.2.2.2.1) 10 o.2.2.2.2.2.2.2.2.2.2.1) 14 o.2.2.2.2.2.2.2.2.2.2.2.1) 15 o.2.2.2.2.2.2.2.2.2.2.2.2.1) 16 o.2.2.2.2.2.2.2.2.2.2.2.2.2)) o.1 A) args s 0 0 A) (F0 m 2 ls []) := by
    intro n
    induction n with
    | zero => intro wV0 wV1 wV2 wV3 wV5 wV6 wV7 wV8 wV9 wV10 wV14 wV15 wV16 y3 H locs ls h; exact az_non h
    | succ n ih =>
      intro wV0 wV1 wV2 wV3 wV5 wV6 wV7 wV8 wV9 wV10 wV14 wV15 wV16 y3 H locs ls h hP hD hS hl
      rw [FX5_relocateUntilRoom_L2_s] at h
      refine lv_iload_n hx hb dX5_relocateUntilRoom_2 rfl (lv_at hl 3 rfl) ?_
      refine lv_bipush (v := (20 : Int32)) hx hb dX5_relocateUntilRoom_3 (by decide) ?_
      refine lv_icmp_gt (tgt := 74) hx hb dX5_relocateUntilRoom_5 (by decide) (fun c5 => ?_) (fun c5 => ?_)
      · replace h := az_pos c5 h
        refine lv_iconst (v := (-1 : Int32)) hx hb dX5_relocateUntilRoom_74 (by decide) ?_
        have hP : va_P g.1 az_cl (az_cV g ad (va_up (va_up (va_up (va_up (va_up (va_up (va_up (va_up (va_up (va_up (va_up (va_up (va_up V 0 wV0) 1 wV1) 2 wV2) 3 wV3) 5 wV5) 6 wV6) 7 wV7) 8 wV8) 9 wV9) 10 wV10) 14 wV14) 15 wV15) 16 wV16)) _ := hP
        have hD : va_D A (az_cV g ad (va_up (va_up (va_up (va_up (va_up (va_up (va_up (va_up (va_up (va_up (va_up (va_up (va_up V 0 wV0) 1 wV1) 2 wV2) 3 wV3) 5 wV5) 6 wV6) 7 wV7) 8 wV8) 9 wV9) 10 wV10) 14 wV14) 15 wV15) 16 wV16)) := hD
        rw [← Option.some.inj h]
        exact az_iret hx hb hr hlocks hK hP hD hS dX5_relocateUntilRoom_75
      · replace h := az_neg c5 h
        refine lv_aload_n hx hb dX5_relocateUntilRoom_8 rfl (lv_at hl 0 rfl) ?_
        refine lv_dup hx hb dX5_relocateUntilRoom_9 rfl ?_
        refine va_get (D := g.1) (ci := 5) (v := .int (wV16 1)) (C := RX5) (T := TX5) (N := 11) hx hb hts inX5_relocateUntilRoom_RX5 hown hK hP 0 rfl rfl 6 (Nat.le_of_ble_eq_true rfl) (hts _ (List.mem_of_getElem? (i := 1) rfl)) (fun _ h9 => h9) rfl dX5_relocateUntilRoom_10 ?_
        refine lv_iconst (v := (2 : Int32)) hx hb dX5_relocateUntilRoom_13 (by decide) ?_
        refine lv_iadd hx hb dX5_relocateUntilRoom_14 ?_
        refine va_put (D := g.1) (ci := 5) (v := .int ((wV16 1) + (2 : Int32))) (ty := .int) (C := RX5) (T := TX5) (N := 11) hx hb hts inX5_relocateUntilRoom_RX5 tyX5 tyX5_ok nmX5 hown hK hP hD hS 0 rfl rfl 6 (Nat.le_of_ble_eq_true rfl) (hts _ (List.mem_of_getElem? (i := 1) rfl)) (fun _ h9 => h9) rfl (by decide +kernel) rfl rfl (Nat.le_of_ble_eq_true rfl) dX5_relocateUntilRoom_15 (fun H locs hP hD hS => ?_)
        have hP : va_P g.1 az_cl (az_cV g ad (va_up (va_up (va_up (va_up (va_up (va_up (va_up (va_up (va_up (va_up (va_up (va_up (va_up V 0 wV0) 1 wV1) 2 wV2) 3 wV3) 5 wV5) 6 wV6) 7 wV7) 8 wV8) 9 wV9) 10 wV10) 14 wV14) 15 wV15) 16 (upd wV16 1 ((wV16 1) + (2 : Int32))))) _ := hP
        have hD : va_D A (az_cV g ad (va_up (va_up (va_up (va_up (va_up (va_up (va_up (va_up (va_up (va_up (va_up (va_up (va_up V 0 wV0) 1 wV1) 2 wV2) 3 wV3) 5 wV5) 6 wV6) 7 wV7) 8 wV8) 9 wV9) 10 wV10) 14 wV14) 15 wV15) 16 (upd wV16 1 ((wV16 1) + (2 : Int32))))) := hD
        refine lv_aload_n hx hb dX5_relocateUntilRoom_18 rfl (lv_at hl 0 rfl) ?_
        obtain ⟨o19, hc19, h⟩ := az_bnd h
        refine az_callVi (w2 := az_cV g ad (va_up (va_up (va_up (va_up (va_up (va_up (va_up (va_up (va_up (va_up (va_up (va_up (va_up V 0 o19.2.1) 1 o19.2.2.1) 2 o19.2.2.2.1) 3 wV3) 5 o19.2.2.2.2.1) 6 o19.2.2.2.2.2.1) 7 o19.2.2.2.2.2.2.1) 8 o19.2.2.2.2.2.2.2.1) 9 o19.2.2.2.2.2.2.2.2.1) 10 o19.2.2.2.2.2.2.2.2.2) 14 wV14) 15 wV15) 16 (upd wV16 1 ((wV16 1) + (2 : Int32))))) (As := []) (rest := []) ⟨hx, hb, hml, hown, hts⟩ hl.1 (kX5_regain l g ad (va_up (va_up (va_up (va_up (va_up (va_up (va_up (va_up (va_up (va_up (va_up (va_up (va_up V 0 wV0) 1 wV1) 2 wV2) 3 wV3) 5 wV5) 6 wV6) 7 wV7) 8 wV8) 9 wV9) 10 wV10) 14 wV14) 15 wV15) 16 (upd wV16 1 ((wV16 1) + (2 : Int32)))) o19 hc19) (cwV 0 hts gX5_relocateUntilRoom_X5_regain rfl rfl rfl (by decide +kernel) ⟨Nat.le_of_ble_eq_true rfl, Nat.le_of_ble_eq_true rfl⟩) rfl hK hP hD hS hA [0, 1, 2, 3, 4, 5, 6, 7, 8, 9, 10, 11, 12, 13, 14, 15, 16, 17, 18, 19] [] [0, 1, 2, 3, 4, 5, 6, 7, 8, 9, 10, 11, 12, 13, 14, 15, 16, 17, 18, 19] rfl rfl rfl rfl rfl (by decide) rfl rfl rfl 0 rfl rfl rfl (Nat.le_of_ble_eq_true rfl) dX5_relocateUntilRoom_19 ⟨Nat.zero_le _, Nat.zero_le _⟩ rfl (fun H locs hP hD hS => ?_)
        refine lv_pop hx hb dX5_relocateUntilRoom_22 rfl ?_
        refine lv_aload_n hx hb dX5_relocateUntilRoom_23 rfl (lv_at hl 0 rfl) ?_
        obtain ⟨o24, hc24, h⟩ := az_bnd h
        refine az_callVi (w2 := az_cV g ad (va_up (va_up (va_up (va_up (va_up (va_up (va_up (va_up (va_up (va_up (va_up (va_up (va_up V 0 o19.2.1) 1 o19.2.2.1) 2 o19.2.2.2.1) 3 wV3) 5 o19.2.2.2.2.1) 6 o19.2.2.2.2.2.1) 7 o19.2.2.2.2.2.2.1) 8 o19.2.2.2.2.2.2.2.1) 9 o19.2.2.2.2.2.2.2.2.1) 10 o19.2.2.2.2.2.2.2.2.2) 14 wV14) 15 wV15) 16 (upd wV16 1 ((wV16 1) + (2 : Int32))))) (As := []) (rest := []) ⟨hx, hb, hml, hown, hts⟩ hl.1 (kX5_roomForWrites l g ad (va_up (va_up (va_up (va_up (va_up (va_up (va_up (va_up (va_up (va_up (va_up (va_up (va_up V 0 o19.2.1) 1 o19.2.2.1) 2 o19.2.2.2.1) 3 wV3) 5 o19.2.2.2.2.1) 6 o19.2.2.2.2.2.1) 7 o19.2.2.2.2.2.2.1) 8 o19.2.2.2.2.2.2.2.1) 9 o19.2.2.2.2.2.2.2.2.1) 10 o19.2.2.2.2.2.2.2.2.2) 14 wV14) 15 wV15) 16 (upd wV16 1 ((wV16 1) + (2 : Int32)))) o24 hc24) (cwV 0 hts gX5_relocateUntilRoom_X5_roomForWrites rfl rfl rfl (by decide +kernel) ⟨Nat.le_of_ble_eq_true rfl, Nat.le_of_ble_eq_true rfl⟩) rfl hK hP hD hS hA [0, 1, 2, 3, 4, 5, 6, 7, 8, 9, 10, 11, 12, 13, 14, 15, 16, 17, 18, 19] [] [0, 1, 2, 3, 4, 5, 6, 7, 8, 9, 10, 11, 12, 13, 14, 15, 16, 17, 18, 19] rfl rfl rfl rfl rfl (by decide) rfl rfl rfl 0 rfl rfl rfl (Nat.le_of_ble_eq_true rfl) dX5_relocateUntilRoom_24 ⟨Nat.zero_le _, Nat.zero_le _⟩ rfl (fun H locs hP hD hS => ?_)
        refine lv_iload_n hx hb dX5_relocateUntilRoom_27 rfl (lv_at hl 2 rfl) ?_
        refine lv_icmp_lt (tgt := 33) hx hb dX5_relocateUntilRoom_28 (by decide) (fun c28 => ?_) (fun c28 => ?_)
        · replace h := az_pos c28 h
          refine lv_aload_n hx hb dX5_relocateUntilRoom_33 rfl (lv_at hl 0 rfl) ?_
          refine lv_iload_n hx hb dX5_relocateUntilRoom_34 rfl (lv_at hl 1 rfl) ?_
          obtain ⟨o35, hc35, h⟩ := az_bnd h
          refine az_callVi (w2 := az_cV g ad (va_up (va_up (va_up (va_up (va_up (va_up (va_up (va_up (va_up (va_up (va_up (va_up (va_up V 0 o19.2.1) 1 o19.2.2.1) 2 o19.2.2.2.1) 3 wV3) 5 o19.2.2.2.2.1) 6 o19.2.2.2.2.2.1) 7 o19.2.2.2.2.2.2.1) 8 o19.2.2.2.2.2.2.2.1) 9 o19.2.2.2.2.2.2.2.2.1) 10 o19.2.2.2.2.2.2.2.2.2) 14 wV14) 15 wV15) 16 (upd wV16 1 ((wV16 1) + (2 : Int32))))) (As := [.int x1]) (rest := []) ⟨hx, hb, hml, hown, hts⟩ hl.1 (kX5_chooseVictim l g ad (va_up (va_up (va_up (va_up (va_up (va_up (va_up (va_up (va_up (va_up (va_up (va_up (va_up V 0 o19.2.1) 1 o19.2.2.1) 2 o19.2.2.2.1) 3 wV3) 5 o19.2.2.2.2.1) 6 o19.2.2.2.2.2.1) 7 o19.2.2.2.2.2.2.1) 8 o19.2.2.2.2.2.2.2.1) 9 o19.2.2.2.2.2.2.2.2.1) 10 o19.2.2.2.2.2.2.2.2.2) 14 wV14) 15 wV15) 16 (upd wV16 1 ((wV16 1) + (2 : Int32)))) x1 o35 hc35) (cwV 1 hts gX5_relocateUntilRoom_X5_chooseVictim rfl rfl rfl (by decide +kernel) ⟨Nat.le_of_ble_eq_true rfl, Nat.le_of_ble_eq_true rfl⟩) rfl hK hP hD hS hA [0, 1, 2, 3, 4, 5, 6, 7, 8, 9, 10, 11, 12, 13, 14, 15, 16, 17, 18, 19] [] [0, 1, 2, 3, 4, 5, 6, 7, 8, 9, 10, 11, 12, 13, 14, 15, 16, 17, 18, 19] rfl rfl rfl rfl rfl (by decide) rfl rfl rfl 0 rfl rfl rfl (Nat.le_of_ble_eq_true rfl) dX5_relocateUntilRoom_35 ⟨Nat.zero_le _, Nat.zero_le _⟩ rfl (fun H locs hP hD hS => ?_)
          refine lv_istore (lv' := [(4, .int o35), (0, .ref (ad 0)), (1, .int x1), (2, .int x2), (3, .int y3)]) hx hb dX5_relocateUntilRoom_38 hl (by decide) rfl (fun ls hl => ?_)
          refine lv_iload hx hb dX5_relocateUntilRoom_40 (lv_at hl 0 rfl) ?_
          refine lv_iconst (v := (-1 : Int32)) hx hb dX5_relocateUntilRoom_42 (by decide) ?_
          refine lv_icmp_eq (tgt := 59) hx hb dX5_relocateUntilRoom_43 (by decide) (fun c43 => ?_) (fun c43 => ?_)
          · replace h := az_pos c43 h
            refine lv_iconst (v := (-1 : Int32)) hx hb dX5_relocateUntilRoom_59 (by decide) ?_
            have hP : va_P g.1 az_cl (az_cV g ad (va_up (va_up (va_up (va_up (va_up (va_up (va_up (va_up (va_up (va_up (va_up (va_up (va_up V 0 o19.2.1) 1 o19.2.2.1) 2 o19.2.2.2.1) 3 wV3) 5 o19.2.2.2.2.1) 6 o19.2.2.2.2.2.1) 7 o19.2.2.2.2.2.2.1) 8 o19.2.2.2.2.2.2.2.1) 9 o19.2.2.2.2.2.2.2.2.1) 10 o19.2.2.2.2.2.2.2.2.2) 14 wV14) 15 wV15) 16 (upd wV16 1 ((wV16 1) + (2 : Int32))))) _ := hP
            have hD : va_D A (az_cV g ad (va_up (va_up (va_up (va_up (va_up (va_up (va_up (va_up (va_up (va_up (va_up (va_up (va_up V 0 o19.2.1) 1 o19.2.2.1) 2 o19.2.2.2.1) 3 wV3) 5 o19.2.2.2.2.1) 6 o19.2.2.2.2.2.1) 7 o19.2.2.2.2.2.2.1) 8 o19.2.2.2.2.2.2.2.1) 9 o19.2.2.2.2.2.2.2.2.1) 10 o19.2.2.2.2.2.2.2.2.2) 14 wV14) 15 wV15) 16 (upd wV16 1 ((wV16 1) + (2 : Int32))))) := hD
            rw [← Option.some.inj h]
            exact az_iret hx hb hr hlocks hK hP hD hS dX5_relocateUntilRoom_60
          · replace h := az_neg c43 h
            refine lv_aload_n hx hb dX5_relocateUntilRoom_46 rfl (lv_at hl 1 rfl) ?_
            refine lv_iload hx hb dX5_relocateUntilRoom_47 (lv_at hl 0 rfl) ?_
            obtain ⟨o49, hc49, h⟩ := az_bnd h
            refine az_callVi (w2 := az_cV g ad (va_up (va_up (va_up (va_up (va_up (va_up (va_up (va_up (va_up (va_up (va_up (va_up (va_up V 0 o19.2.1) 1 o19.2.2.1) 2 o19.2.2.2.1) 3 wV3) 5 o19.2.2.2.2.1) 6 o19.2.2.2.2.2.1) 7 o19.2.2.2.2.2.2.1) 8 o19.2.2.2.2.2.2.2.1) 9 o19.2.2.2.2.2.2.2.2.1) 10 o19.2.2.2.2.2.2.2.2.2) 14 wV14) 15 wV15) 16 (upd wV16 1 ((wV16 1) + (2 : Int32))))) (As := [.int o35]) (rest := []) ⟨hx, hb, hml, hown, hts⟩ hl.1 (kX5_useOf l g ad (va_up (va_up (va_up (va_up (va_up (va_up (va_up (va_up (va_up (va_up (va_up (va_up (va_up V 0 o19.2.1) 1 o19.2.2.1) 2 o19.2.2.2.1) 3 wV3) 5 o19.2.2.2.2.1) 6 o19.2.2.2.2.2.1) 7 o19.2.2.2.2.2.2.1) 8 o19.2.2.2.2.2.2.2.1) 9 o19.2.2.2.2.2.2.2.2.1) 10 o19.2.2.2.2.2.2.2.2.2) 14 wV14) 15 wV15) 16 (upd wV16 1 ((wV16 1) + (2 : Int32)))) o35 o49 hc49) (cwV 1 hts gX5_relocateUntilRoom_X5_useOf rfl rfl rfl (by decide +kernel) ⟨Nat.le_of_ble_eq_true rfl, Nat.le_of_ble_eq_true rfl⟩) rfl hK hP hD hS hA [0, 1, 2, 3, 4, 5, 6, 7, 8, 9, 10, 11, 12, 13, 14, 15, 16, 17, 18, 19] [] [0, 1, 2, 3, 4, 5, 6, 7, 8, 9, 10, 11, 12, 13, 14, 15, 16, 17, 18, 19] rfl rfl rfl rfl rfl (by decide) rfl rfl rfl 0 rfl rfl rfl (Nat.le_of_ble_eq_true rfl) dX5_relocateUntilRoom_49 ⟨Nat.zero_le _, Nat.zero_le _⟩ rfl (fun H locs hP hD hS => ?_)
            refine lv_aload_n hx hb dX5_relocateUntilRoom_52 rfl (lv_at hl 1 rfl) ?_
            obtain ⟨o53, hc53, h⟩ := az_bnd h
            refine az_callVi (w2 := az_cV g ad (va_up (va_up (va_up (va_up (va_up (va_up (va_up (va_up (va_up (va_up (va_up (va_up (va_up V 0 o19.2.1) 1 o19.2.2.1) 2 o19.2.2.2.1) 3 wV3) 5 o19.2.2.2.2.1) 6 o19.2.2.2.2.2.1) 7 o19.2.2.2.2.2.2.1) 8 o19.2.2.2.2.2.2.2.1) 9 o19.2.2.2.2.2.2.2.2.1) 10 o19.2.2.2.2.2.2.2.2.2) 14 wV14) 15 wV15) 16 (upd wV16 1 ((wV16 1) + (2 : Int32))))) (As := []) (rest := [.int o49]) ⟨hx, hb, hml, hown, hts⟩ hl.1 (kX5_roomForRelocation l g ad (va_up (va_up (va_up (va_up (va_up (va_up (va_up (va_up (va_up (va_up (va_up (va_up (va_up V 0 o19.2.1) 1 o19.2.2.1) 2 o19.2.2.2.1) 3 wV3) 5 o19.2.2.2.2.1) 6 o19.2.2.2.2.2.1) 7 o19.2.2.2.2.2.2.1) 8 o19.2.2.2.2.2.2.2.1) 9 o19.2.2.2.2.2.2.2.2.1) 10 o19.2.2.2.2.2.2.2.2.2) 14 wV14) 15 wV15) 16 (upd wV16 1 ((wV16 1) + (2 : Int32)))) o53 hc53) (cwV 0 hts gX5_relocateUntilRoom_X5_roomForRelocation rfl rfl rfl (by decide +kernel) ⟨Nat.le_of_ble_eq_true rfl, Nat.le_of_ble_eq_true rfl⟩) rfl hK hP hD hS hA [0, 1, 2, 3, 4, 5, 6, 7, 8, 9, 10, 11, 12, 13, 14, 15, 16, 17, 18, 19] [] [0, 1, 2, 3, 4, 5, 6, 7, 8, 9, 10, 11, 12, 13, 14, 15, 16, 17, 18, 19] rfl rfl rfl rfl rfl (by decide) rfl rfl rfl 0 rfl rfl rfl (Nat.le_of_ble_eq_true rfl) dX5_relocateUntilRoom_53 ⟨Nat.zero_le _, Nat.zero_le _⟩ rfl (fun H locs hP hD hS => ?_)
            refine lv_icmp_le (tgt := 61) hx hb dX5_relocateUntilRoom_56 (by decide) (fun c56 => ?_) (fun c56 => ?_)
            · replace h := az_pos c56 h
              refine lv_aload_n hx hb dX5_relocateUntilRoom_61 rfl (lv_at hl 1 rfl) ?_
              refine lv_iload hx hb dX5_relocateUntilRoom_62 (lv_at hl 0 rfl) ?_
              obtain ⟨o64, hc64, h⟩ := az_bnd h
              refine az_callVi (w2 := az_cV g ad (va_up (va_up (va_up (va_up (va_up (va_up (va_up (va_up (va_up (va_up (va_up (va_up (va_up V 0 o64.2.1) 1 o19.2.2.1) 2 o64.2.2.1) 3 o64.2.2.2.1) 5 o64.2.2.2.2.1) 6 o64.2.2.2.2.2.1) 7 o64.2.2.2.2.2.2.1) 8 o64.2.2.2.2.2.2.2.1) 9 o64.2.2.2.2.2.2.2.2.1) 10 o19.2.2.2.2.2.2.2.2.2) 14 o64.2.2.2.2.2.2.2.2.2.1) 15 o64.2.2.2.2.2.2.2.2.2.2.1) 16 o64.2.2.2.2.2.2.2.2.2.2.2)) (As := [.int o35]) (rest := []) ⟨hx, hb, hml, hown, hts⟩ hl.1 (kX5_moveAll l g ad (va_up (va_up (va_up (va_up (va_up (va_up (va_up (va_up (va_up (va_up (va_up (va_up (va_up V 0 o19.2.1) 1 o19.2.2.1) 2 o19.2.2.2.1) 3 wV3) 5 o19.2.2.2.2.1) 6 o19.2.2.2.2.2.1) 7 o19.2.2.2.2.2.2.1) 8 o19.2.2.2.2.2.2.2.1) 9 o19.2.2.2.2.2.2.2.2.1) 10 o19.2.2.2.2.2.2.2.2.2) 14 wV14) 15 wV15) 16 (upd wV16 1 ((wV16 1) + (2 : Int32)))) o35 o64 hc64) (cwV 1 hts gX5_relocateUntilRoom_X5_moveAll rfl rfl rfl (by decide +kernel) ⟨Nat.le_of_ble_eq_true rfl, Nat.le_of_ble_eq_true rfl⟩) rfl hK hP hD hS hA [0, 1, 2, 3, 4, 5, 6, 7, 8, 9, 10, 11, 12, 13, 14, 15, 16, 17, 18, 19] [] [0, 1, 2, 3, 4, 5, 6, 7, 8, 9, 10, 11, 12, 13, 14, 15, 16, 17, 18, 19] rfl rfl rfl rfl rfl (by decide) rfl rfl rfl 0 rfl rfl rfl (Nat.le_of_ble_eq_true rfl) dX5_relocateUntilRoom_64 ⟨Nat.zero_le _, Nat.zero_le _⟩ rfl (fun H locs hP hD hS => ?_)
              refine lv_pop hx hb dX5_relocateUntilRoom_67 rfl ?_
              refine lv_iinc (v := y3 + (1 : Int32)) (lv' := [(3, .int (y3 + (1 : Int32))), (4, .int o35), (0, .ref (ad 0)), (1, .int x1), (2, .int x2)]) hx hb dX5_relocateUntilRoom_68 hl (k := 4) rfl (rfl) (by decide) rfl (fun ls hl => ?_)
              refine lv_goto (tgt := 2) hx hb dX5_relocateUntilRoom_71 (by decide) ?_
              have hP : va_P g.1 az_cl (az_cV g ad (va_up (va_up (va_up (va_up (va_up (va_up (va_up (va_up (va_up (va_up (va_up (va_up (va_up V 0 o64.2.1) 1 o19.2.2.1) 2 o64.2.2.1) 3 o64.2.2.2.1) 5 o64.2.2.2.2.1) 6 o64.2.2.2.2.2.1) 7 o64.2.2.2.2.2.2.1) 8 o64.2.2.2.2.2.2.2.1) 9 o64.2.2.2.2.2.2.2.2.1) 10 o19.2.2.2.2.2.2.2.2.2) 14 o64.2.2.2.2.2.2.2.2.2.1) 15 o64.2.2.2.2.2.2.2.2.2.2.1) 16 o64.2.2.2.2.2.2.2.2.2.2.2)) _ := hP
              have hD : va_D A (az_cV g ad (va_up (va_up (va_up (va_up (va_up (va_up (va_up (va_up (va_up (va_up (va_up (va_up (va_up V 0 o64.2.1) 1 o19.2.2.1) 2 o64.2.2.1) 3 o64.2.2.2.1) 5 o64.2.2.2.2.1) 6 o64.2.2.2.2.2.1) 7 o64.2.2.2.2.2.2.1) 8 o64.2.2.2.2.2.2.2.1) 9 o64.2.2.2.2.2.2.2.2.1) 10 o19.2.2.2.2.2.2.2.2.2) 14 o64.2.2.2.2.2.2.2.2.2.1) 15 o64.2.2.2.2.2.2.2.2.2.2.1) 16 o64.2.2.2.2.2.2.2.2.2.2.2)) := hD
              exact ih o64.2.1 o19.2.2.1 o64.2.2.1 o64.2.2.2.1 o64.2.2.2.2.1 o64.2.2.2.2.2.1 o64.2.2.2.2.2.2.1 o64.2.2.2.2.2.2.2.1 o64.2.2.2.2.2.2.2.2.1 o19.2.2.2.2.2.2.2.2.2 o64.2.2.2.2.2.2.2.2.2.1 o64.2.2.2.2.2.2.2.2.2.2.1 o64.2.2.2.2.2.2.2.2.2.2.2 (y3 + (1 : Int32)) _ _ ls h hP hD hS (lv_sub hl [2, 3, 4, 0] rfl)
            · replace h := az_neg c56 h
              refine lv_iconst (v := (-1 : Int32)) hx hb dX5_relocateUntilRoom_59 (by decide) ?_
              have hP : va_P g.1 az_cl (az_cV g ad (va_up (va_up (va_up (va_up (va_up (va_up (va_up (va_up (va_up (va_up (va_up (va_up (va_up V 0 o19.2.1) 1 o19.2.2.1) 2 o19.2.2.2.1) 3 wV3) 5 o19.2.2.2.2.1) 6 o19.2.2.2.2.2.1) 7 o19.2.2.2.2.2.2.1) 8 o19.2.2.2.2.2.2.2.1) 9 o19.2.2.2.2.2.2.2.2.1) 10 o19.2.2.2.2.2.2.2.2.2) 14 wV14) 15 wV15) 16 (upd wV16 1 ((wV16 1) + (2 : Int32))))) _ := hP
              have hD : va_D A (az_cV g ad (va_up (va_up (va_up (va_up (va_up (va_up (va_up (va_up (va_up (va_up (va_up (va_up (va_up V 0 o19.2.1) 1 o19.2.2.1) 2 o19.2.2.2.1) 3 wV3) 5 o19.2.2.2.2.1) 6 o19.2.2.2.2.2.1) 7 o19.2.2.2.2.2.2.1) 8 o19.2.2.2.2.2.2.2.1) 9 o19.2.2.2.2.2.2.2.2.1) 10 o19.2.2.2.2.2.2.2.2.2) 14 wV14) 15 wV15) 16 (upd wV16 1 ((wV16 1) + (2 : Int32))))) := hD
              rw [← Option.some.inj h]
              exact az_iret hx hb hr hlocks hK hP hD hS dX5_relocateUntilRoom_60
        · replace h := az_neg c28 h
          refine lv_iload_n hx hb dX5_relocateUntilRoom_31 rfl (lv_at hl 3 rfl) ?_
          have hP : va_P g.1 az_cl (az_cV g ad (va_up (va_up (va_up (va_up (va_up (va_up (va_up (va_up (va_up (va_up (va_up (va_up (va_up V 0 o19.2.1) 1 o19.2.2.1) 2 o19.2.2.2.1) 3 wV3) 5 o19.2.2.2.2.1) 6 o19.2.2.2.2.2.1) 7 o19.2.2.2.2.2.2.1) 8 o19.2.2.2.2.2.2.2.1) 9 o19.2.2.2.2.2.2.2.2.1) 10 o19.2.2.2.2.2.2.2.2.2) 14 wV14) 15 wV15) 16 (upd wV16 1 ((wV16 1) + (2 : Int32))))) _ := hP
          have hD : va_D A (az_cV g ad (va_up (va_up (va_up (va_up (va_up (va_up (va_up (va_up (va_up (va_up (va_up (va_up (va_up V 0 o19.2.1) 1 o19.2.2.1) 2 o19.2.2.2.1) 3 wV3) 5 o19.2.2.2.2.1) 6 o19.2.2.2.2.2.1) 7 o19.2.2.2.2.2.2.1) 8 o19.2.2.2.2.2.2.2.1) 9 o19.2.2.2.2.2.2.2.2.1) 10 o19.2.2.2.2.2.2.2.2.2) 14 wV14) 15 wV15) 16 (upd wV16 1 ((wV16 1) + (2 : Int32))))) := hD
          rw [← Option.some.inj h]
          exact az_iret hx hb hr hlocks hK hP hD hS dX5_relocateUntilRoom_32
  refine lv_iconst (v := (0 : Int32)) hx hb dX5_relocateUntilRoom_0 (by decide) ?_
  refine lv_istore_n (lv' := [(3, .int (0 : Int32)), (0, .ref (ad 0)), (1, .int x1), (2, .int x2)]) hx hb dX5_relocateUntilRoom_1 rfl hl (by decide) rfl (fun ls hl => ?_)
  have hP : va_P g.1 az_cl (az_cV g ad (va_up (va_up (va_up (va_up (va_up (va_up (va_up (va_up (va_up (va_up (va_up (va_up (va_up V 0 (V 0)) 1 (V 1)) 2 (V 2)) 3 (V 3)) 5 (V 5)) 6 (V 6)) 7 (V 7)) 8 (V 8)) 9 (V 9)) 10 (V 10)) 14 (V 14)) 15 (V 15)) 16 (V 16))) _ := hP
  have hD : va_D A (az_cV g ad (va_up (va_up (va_up (va_up (va_up (va_up (va_up (va_up (va_up (va_up (va_up (va_up (va_up V 0 (V 0)) 1 (V 1)) 2 (V 2)) 3 (V 3)) 5 (V 5)) 6 (V 6)) 7 (V 7)) 8 (V 8)) 9 (V 9)) 10 (V 10)) 14 (V 14)) 15 (V 15)) 16 (V 16))) := hD
  exact hL2 az_fuel (V 0) (V 1) (V 2) (V 3) (V 5) (V 6) (V 7) (V 8) (V 9) (V 10) (V 14) (V 15) (V 16) (0 : Int32) _ _ ls h hP hD hS (lv_sub hl [1, 2, 3, 0] rfl)
