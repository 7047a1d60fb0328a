/-! 20.blocks: printed by wip/whole/gen.py out of the printed instructions -/
def FJ7_fill_53178_L5 : Nat → Nat → az_St → Int32 → (Nat → Int32) → Int32 → Int32 → Option ((Nat → Int32))
  | 0, _, _, _, _, _, _ => none
  | k + 1, n, Z, x1, wZ0, y2, y3 => if y3 ≤ y2 then (some (wZ0)) else (if az_in y2 n = true then FJ7_fill_53178_L5 k n Z x1 (upd wZ0 y2.toNatClampNeg x1) (y2 + (1 : Int32)) y3 else none)
theorem FJ7_fill_53178_L5_s (k : Nat) (n : Nat) (Z : az_St) (x1 : Int32) (wZ0 : Nat → Int32) (y2 : Int32) (y3 : Int32) : FJ7_fill_53178_L5 (k + 1) n Z x1 wZ0 y2 y3 = (if y3 ≤ y2 then (some (wZ0)) else (if az_in y2 n = true then FJ7_fill_53178_L5 k n Z x1 (upd wZ0 y2.toNatClampNeg x1) (y2 + (1 : Int32)) y3 else none)) := rfl
def FJ7_fill_53178 (n : Nat) (Z : az_St) (x1 : Int32) : Option ((Nat → Int32)) := FJ7_fill_53178_L5 az_fuel n Z x1 (Z 0) (0 : Int32) (Int32.ofNat n)
set_option maxHeartbeats 4000000 in
set_option maxRecDepth 100000 in
theorem kJ7_fill_53178 (l : Launch) (g : az_G) (b : Nat) (n : Nat) (Z : az_St) (x1 : Int32) (o : (Nat → Int32)) (h : FJ7_fill_53178 n Z x1 = some o) : az_V l yJ7_fill_53178 wsJ7_fill_53178 ({ frames := 0, cells := 0, slots := 0, locals := 0 } : Room) [.ref (b), .int x1] g (az_c1 g b n (Z 0)) (az_c1 g b n ((va_up Z 0 o) 0)) := by
  refine az_body (cc := cJ7_fill_53178) (maxL := 4) (ret := none) (Qc := fun A => az_QV g (az_c1 g b n ((va_up Z 0 o) 0)) A) (by decide +kernel) rfl (Nat.le_of_ble_eq_true rfl) ?_
  intro p e s m args below meth c A hx hb hr hts hown hml hlocks hA hK hP hD hS ls hl
  have hl : lv_has ls 4 [(0, .ref (b)), (1, .int x1)] := hl
  unfold FJ7_fill_53178 at h
  have hL5 : ∀ (k : Nat) (wZ0 : Nat → Int32) (y2 : Int32) (y3 : Int32) (H : Heap) (locs : List Loc) (ls : Array Slot), FJ7_fill_53178_L5 k n Z x1 wZ0 y2 y3 = some o → va_P g.1 az_cl (az_c1 g b n ((va_up Z 0 wZ0) 0)) H → va_D A (az_c1 g b n ((va_up Z 0 wZ0) 0)) → va_S A s.heap H locs → lv_has ls 4 [(0, .ref (b)), (1, .int x1), (2, .int y2), (3, .int y3)] → W p l e ({ frames := 0, cells := 0, slots := 0, locals := 0 } : Room) s m args below meth c H locs 0 0 (MQ below (az_QV g (az_c1 g b n ((va_up Z 0 o) 0)) A) args s 0 0 A) (F0 m 5 ls []) := by
    intro k
    induction k with
    | zero => intro wZ0 y2 y3 H locs ls h; exact az_non h
    | succ k ih =>
      intro wZ0 y2 y3 H locs ls h hP hD hS hl
      rw [FJ7_fill_53178_L5_s] at h
      refine lv_iload_n hx hb dJ7_fill_53178_5 rfl (lv_at hl 2 rfl) ?_
      refine lv_iload_n hx hb dJ7_fill_53178_6 rfl (lv_at hl 3 rfl) ?_
      refine lv_icmp_ge (tgt := 20) hx hb dJ7_fill_53178_7 (by decide) (fun c7 => ?_) (fun c7 => ?_)
      · replace h := az_pos c7 h
        have hP : va_P g.1 az_cl (az_c1 g b n ((va_up Z 0 wZ0) 0)) _ := hP
        have hD : va_D A (az_c1 g b n ((va_up Z 0 wZ0) 0)) := hD
        rw [← Option.some.inj h]
        exact az_vret hx hb hr hlocks hK hP hD hS dJ7_fill_53178_20
      · replace h := az_neg c7 h
        refine lv_aload_n hx hb dJ7_fill_53178_10 rfl (lv_at hl 0 rfl) ?_
        refine lv_iload_n hx hb dJ7_fill_53178_11 rfl (lv_at hl 2 rfl) ?_
        refine lv_iload_n hx hb dJ7_fill_53178_12 rfl (lv_at hl 1 rfl) ?_
        obtain ⟨i13, h⟩ := az_ite h
        refine va_iast (D := g.1) (f := wZ0) hx hb hK hP hD hS 0 0 rfl rfl (az_vin i13) dJ7_fill_53178_13 (fun H locs hP hD hS => ?_)
        have hP : va_P g.1 az_cl (az_c1 g b n ((va_up Z 0 (upd wZ0 y2.toNatClampNeg x1)) 0)) _ := hP
        have hD : va_D A (az_c1 g b n ((va_up Z 0 (upd wZ0 y2.toNatClampNeg x1)) 0)) := hD
        refine lv_iinc (v := y2 + (1 : Int32)) (lv' := [(2, .int (y2 + (1 : Int32))), (0, .ref (b)), (1, .int x1), (3, .int y3)]) hx hb dJ7_fill_53178_14 hl (k := 2) rfl (rfl) (by decide) rfl (fun ls hl => ?_)
        refine lv_goto (tgt := 5) hx hb dJ7_fill_53178_17 (by decide) ?_
        have hP : va_P g.1 az_cl (az_c1 g b n ((va_up Z 0 (upd wZ0 y2.toNatClampNeg x1)) 0)) _ := hP
        have hD : va_D A (az_c1 g b n ((va_up Z 0 (upd wZ0 y2.toNatClampNeg x1)) 0)) := hD
        exact ih (upd wZ0 y2.toNatClampNeg x1) (y2 + (1 : Int32)) y3 _ _ ls h hP hD hS (lv_sub hl [1, 2, 0, 3] rfl)
  refine lv_iconst (v := (0 : Int32)) hx hb dJ7_fill_53178_0 (by decide) ?_
  refine lv_istore_n (lv' := [(2, .int (0 : Int32)), (0, .ref (b)), (1, .int x1)]) hx hb dJ7_fill_53178_1 rfl hl (by decide) rfl (fun ls hl => ?_)
  refine lv_aload_n hx hb dJ7_fill_53178_2 rfl (lv_at hl 1 rfl) ?_
  refine va_alen (D := g.1) (ty := .int) (v := Int32.ofNat n) hx hb hK hP 0 0 rfl rfl rfl dJ7_fill_53178_3 ?_
  refine lv_istore_n (lv' := [(3, .int (Int32.ofNat n)), (2, .int (0 : Int32)), (0, .ref (b)), (1, .int x1)]) hx hb dJ7_fill_53178_4 rfl hl (by decide) rfl (fun ls hl => ?_)
  have hP : va_P g.1 az_cl (az_c1 g b n ((va_up Z 0 (Z 0)) 0)) _ := hP
  have hD : va_D A (az_c1 g b n ((va_up Z 0 (Z 0)) 0)) := hD
  exact hL5 az_fuel (Z 0) (0 : Int32) (Int32.ofNat n) _ _ ls h hP hD hS (lv_sub hl [2, 3, 1, 0] rfl)

def FJ6_bitCount_0f7a4 (x0 : Int32) : Option (Int32) := az_lt (x0 - (((x0.toUInt32 >>> ((1 : Int32).toUInt32 &&& Int32.toUInt32 31)).toInt32) &&& (1431655765 : Int32))) (fun z9 => az_lt ((z9 &&& (858993459 : Int32)) + (((z9.toUInt32 >>> ((2 : Int32).toUInt32 &&& Int32.toUInt32 31)).toInt32) &&& (858993459 : Int32))) (fun z23 => az_lt ((z23 + ((z23.toUInt32 >>> ((4 : Int32).toUInt32 &&& Int32.toUInt32 31)).toInt32)) &&& (252645135 : Int32)) (fun z33 => az_lt (z33 + ((z33.toUInt32 >>> ((8 : Int32).toUInt32 &&& Int32.toUInt32 31)).toInt32)) (fun z40 => az_lt (z40 + ((z40.toUInt32 >>> ((16 : Int32).toUInt32 &&& Int32.toUInt32 31)).toInt32)) (fun z47 => some (z47 &&& (63 : Int32)))))))
set_option maxHeartbeats 4000000 in
set_option maxRecDepth 100000 in
theorem kJ6_bitCount_0f7a4 (l : Launch) (g : az_G)  (x0 : Int32) (o : Int32) (h : FJ6_bitCount_0f7a4 x0 = some o) : az_I l yJ6_bitCount_0f7a4 wsJ6_bitCount_0f7a4 ({ frames := 0, cells := 0, slots := 0, locals := 0 } : Room) [.int x0] g ([]) o ([]) := by
  refine az_body (cc := cJ6_bitCount_0f7a4) (maxL := 1) (ret := (some .int)) (Qc := fun A => az_QI g ([]) o A) (by decide +kernel) rfl (Nat.le_of_ble_eq_true rfl) ?_
  intro p e s m args below meth c A hx hb hr hts hown hml hlocks hA hK hP hD hS ls hl
  have hl : lv_has ls 1 [(0, .int x0)] := hl
  unfold FJ6_bitCount_0f7a4 at h
  refine lv_iload_n hx hb dJ6_bitCount_0f7a4_0 rfl (lv_at hl 0 rfl) ?_
  refine lv_iload_n hx hb dJ6_bitCount_0f7a4_1 rfl (lv_at hl 0 rfl) ?_
  refine lv_iconst (v := (1 : Int32)) hx hb dJ6_bitCount_0f7a4_2 (by decide) ?_
  refine lv_iushr (v := (x0.toUInt32 >>> ((1 : Int32).toUInt32 &&& Int32.toUInt32 31)).toInt32) hx hb dJ6_bitCount_0f7a4_3 rfl ?_
  refine lv_ldcw (v := (1431655765 : Int32)) hx hb hown (hts _ (List.mem_of_getElem? (i := 1) rfl)) dJ6_bitCount_0f7a4_4 ?_
  refine lv_iand hx hb dJ6_bitCount_0f7a4_7 ?_
  refine lv_isub hx hb dJ6_bitCount_0f7a4_8 ?_
  refine lv_topi (x := x0 - (((x0.toUInt32 >>> ((1 : Int32).toUInt32 &&& Int32.toUInt32 31)).toInt32) &&& (1431655765 : Int32))) (fun z9 e9 => ?_)
  replace h := az_let e9 h
  refine lv_istore_n (lv' := [(0, .int z9)]) hx hb dJ6_bitCount_0f7a4_9 rfl hl (by decide) rfl (fun ls hl => ?_)
  refine lv_iload_n hx hb dJ6_bitCount_0f7a4_10 rfl (lv_at hl 0 rfl) ?_
  refine lv_ldcw (v := (858993459 : Int32)) hx hb hown (hts _ (List.mem_of_getElem? (i := 2) rfl)) dJ6_bitCount_0f7a4_11 ?_
  refine lv_iand hx hb dJ6_bitCount_0f7a4_14 ?_
  refine lv_iload_n hx hb dJ6_bitCount_0f7a4_15 rfl (lv_at hl 0 rfl) ?_
  refine lv_iconst (v := (2 : Int32)) hx hb dJ6_bitCount_0f7a4_16 (by decide) ?_
  refine lv_iushr (v := (z9.toUInt32 >>> ((2 : Int32).toUInt32 &&& Int32.toUInt32 31)).toInt32) hx hb dJ6_bitCount_0f7a4_17 rfl ?_
  refine lv_ldcw (v := (858993459 : Int32)) hx hb hown (hts _ (List.mem_of_getElem? (i := 2) rfl)) dJ6_bitCount_0f7a4_18 ?_
  refine lv_iand hx hb dJ6_bitCount_0f7a4_21 ?_
  refine lv_iadd hx hb dJ6_bitCount_0f7a4_22 ?_
  refine lv_topi (x := (z9 &&& (858993459 : Int32)) + (((z9.toUInt32 >>> ((2 : Int32).toUInt32 &&& Int32.toUInt32 31)).toInt32) &&& (858993459 : Int32))) (fun z23 e23 => ?_)
  replace h := az_let e23 h
  refine lv_istore_n (lv' := [(0, .int z23)]) hx hb dJ6_bitCount_0f7a4_23 rfl hl (by decide) rfl (fun ls hl => ?_)
  refine lv_iload_n hx hb dJ6_bitCount_0f7a4_24 rfl (lv_at hl 0 rfl) ?_
  refine lv_iload_n hx hb dJ6_bitCount_0f7a4_25 rfl (lv_at hl 0 rfl) ?_
  refine lv_iconst (v := (4 : Int32)) hx hb dJ6_bitCount_0f7a4_26 (by decide) ?_
  refine lv_iushr (v := (z23.toUInt32 >>> ((4 : Int32).toUInt32 &&& Int32.toUInt32 31)).toInt32) hx hb dJ6_bitCount_0f7a4_27 rfl ?_
  refine lv_iadd hx hb dJ6_bitCount_0f7a4_28 ?_
  refine lv_ldcw (v := (252645135 : Int32)) hx hb hown (hts _ (List.mem_of_getElem? (i := 3) rfl)) dJ6_bitCount_0f7a4_29 ?_
  refine lv_iand hx hb dJ6_bitCount_0f7a4_32 ?_
  refine lv_topi (x := (z23 + ((z23.toUInt32 >>> ((4 : Int32).toUInt32 &&& Int32.toUInt32 31)).toInt32)) &&& (252645135 : Int32)) (fun z33 e33 => ?_)
  replace h := az_let e33 h
  refine lv_istore_n (lv' := [(0, .int z33)]) hx hb dJ6_bitCount_0f7a4_33 rfl hl (by decide) rfl (fun ls hl => ?_)
  refine lv_iload_n hx hb dJ6_bitCount_0f7a4_34 rfl (lv_at hl 0 rfl) ?_
  refine lv_iload_n hx hb dJ6_bitCount_0f7a4_35 rfl (lv_at hl 0 rfl) ?_
  refine lv_bipush (v := (8 : Int32)) hx hb dJ6_bitCount_0f7a4_36 (by decide) ?_
  refine lv_iushr (v := (z33.toUInt32 >>> ((8 : Int32).toUInt32 &&& Int32.toUInt32 31)).toInt32) hx hb dJ6_bitCount_0f7a4_38 rfl ?_
  refine lv_iadd hx hb dJ6_bitCount_0f7a4_39 ?_
  refine lv_topi (x := z33 + ((z33.toUInt32 >>> ((8 : Int32).toUInt32 &&& Int32.toUInt32 31)).toInt32)) (fun z40 e40 => ?_)
  replace h := az_let e40 h
  refine lv_istore_n (lv' := [(0, .int z40)]) hx hb dJ6_bitCount_0f7a4_40 rfl hl (by decide) rfl (fun ls hl => ?_)
  refine lv_iload_n hx hb dJ6_bitCount_0f7a4_41 rfl (lv_at hl 0 rfl) ?_
  refine lv_iload_n hx hb dJ6_bitCount_0f7a4_42 rfl (lv_at hl 0 rfl) ?_
  refine lv_bipush (v := (16 : Int32)) hx hb dJ6_bitCount_0f7a4_43 (by decide) ?_
  refine lv_iushr (v := (z40.toUInt32 >>> ((16 : Int32).toUInt32 &&& Int32.toUInt32 31)).toInt32) hx hb dJ6_bitCount_0f7a4_45 rfl ?_
  refine lv_iadd hx hb dJ6_bitCount_0f7a4_46 ?_
  refine lv_topi (x := z40 + ((z40.toUInt32 >>> ((16 : Int32).toUInt32 &&& Int32.toUInt32 31)).toInt32)) (fun z47 e47 => ?_)
  replace h := az_let e47 h
  refine lv_istore_n (lv' := [(0, .int z47)]) hx hb dJ6_bitCount_0f7a4_47 rfl hl (by decide) rfl (fun ls hl => ?_)
  refine lv_iload_n hx hb dJ6_bitCount_0f7a4_48 rfl (lv_at hl 0 rfl) ?_
  refine lv_bipush (v := (63 : Int32)) hx hb dJ6_bitCount_0f7a4_49 (by decide) ?_
  refine lv_iand hx hb dJ6_bitCount_0f7a4_51 ?_
  have hP : va_P g.1 az_cl ([]) _ := hP
  have hD : va_D A ([]) := hD
  rw [← Option.some.inj h]
  exact az_iret hx hb hr hlocks hK hP hD hS dJ6_bitCount_0f7a4_52

def FX0_fill (V : az_St) (x1 : Int32) (x2 : Int32) (x3 : Int32) (x4 : Int32) : Option ((Nat → Int32) × (Nat → Int32) × (Nat → Int32)) := if az_in x1 160 = true then some (upd (V 6) x1.toNatClampNeg x2, upd (V 7) x1.toNatClampNeg x3, upd (V 8) x1.toNatClampNeg x4) else none
theorem inX0_fill_RX0 : ∀ w ∈ wsX00, w ∈ wsX0_fill := az_inr [4, 5, 6, 7, 8, 9] (by decide +kernel)
set_option maxHeartbeats 4000000 in
set_option maxRecDepth 100000 in
theorem kX0_fill (l : Launch) (g : az_G) (ad : Nat → Nat) (V : az_St) (x1 : Int32) (x2 : Int32) (x3 : Int32) (x4 : Int32) (o : (Nat → Int32) × (Nat → Int32) × (Nat → Int32)) (h : FX0_fill V x1 x2 x3 x4 = some o) : az_V l yX0_fill wsX0_fill ({ frames := 0, cells := 0, slots := 0, locals := 0 } : Room) [.ref (ad 6), .int x1, .int x2, .int x3, .int x4] g (az_cB g ad V) (az_cB g ad (va_up (va_up (va_up V 6 o.1) 7 o.2.1) 8 o.2.2)) := by
  refine az_body (cc := cX0_fill) (maxL := 5) (ret := none) (Qc := fun A => az_QV g (az_cB g ad (va_up (va_up (va_up V 6 o.1) 7 o.2.1) 8 o.2.2)) A) (by decide +kernel) rfl (Nat.le_of_ble_eq_true rfl) ?_
  intro p e s m args below meth c A hx hb hr hts hown hml hlocks hA hK hP hD hS ls hl
  have hl : lv_has ls 5 [(0, .ref (ad 6)), (1, .int x1), (2, .int x2), (3, .int x3), (4, .int x4)] := hl
  unfold FX0_fill at h
  refine lv_aload_n hx hb dX0_fill_0 rfl (lv_at hl 0 rfl) ?_
  refine va_get (D := g.1) (ci := 0) (v := .ref (ad 8)) (C := RX0) (T := TX0) (N := 6) hx hb hts inX0_fill_RX0 hown hK hP 0 rfl rfl 1 (Nat.le_of_ble_eq_true rfl) (hts _ (List.mem_of_getElem? (i := 1) rfl)) (fun _ h9 => h9) rfl dX0_fill_1 ?_
  refine lv_iload_n hx hb dX0_fill_4 rfl (lv_at hl 1 rfl) ?_
  refine lv_iload_n hx hb dX0_fill_5 rfl (lv_at hl 2 rfl) ?_
  obtain ⟨i6, h⟩ := az_ite h
  refine va_iast (D := g.1) (f := (V 6)) hx hb hK hP hD hS 2 0 rfl rfl (az_vin i6) dX0_fill_6 (fun H locs hP hD hS => ?_)
  have hP : va_P g.1 az_cl (az_cB g ad (va_up V 6 (upd (V 6) x1.toNatClampNeg x2))) _ := hP
  have hD : va_D A (az_cB g ad (va_up V 6 (upd (V 6) x1.toNatClampNeg x2))) := hD
  refine lv_aload_n hx hb dX0_fill_7 rfl (lv_at hl 0 rfl) ?_
  refine va_get (D := g.1) (ci := 0) (v := .ref (ad 9)) (C := RX0) (T := TX0) (N := 6) hx hb hts inX0_fill_RX0 hown hK hP 0 rfl rfl 2 (Nat.le_of_ble_eq_true rfl) (hts _ (List.mem_of_getElem? (i := 2) rfl)) (fun _ h9 => h9) rfl dX0_fill_8 ?_
  refine lv_iload_n hx hb dX0_fill_11 rfl (lv_at hl 1 rfl) ?_
  refine lv_iload_n hx hb dX0_fill_12 rfl (lv_at hl 3 rfl) ?_
  refine va_iast (D := g.1) (f := (V 7)) hx hb hK hP hD hS 3 0 rfl rfl (az_vin i6) dX0_fill_13 (fun H locs hP hD hS => ?_)
  have hP : va_P g.1 az_cl (az_cB g ad (va_up (va_up V 6 (upd (V 6) x1.toNatClampNeg x2)) 7 (upd (V 7) x1.toNatClampNeg x3))) _ := hP
  have hD : va_D A (az_cB g ad (va_up (va_up V 6 (upd (V 6) x1.toNatClampNeg x2)) 7 (upd (V 7) x1.toNatClampNeg x3))) := hD
  refine lv_aload_n hx hb dX0_fill_14 rfl (lv_at hl 0 rfl) ?_
  refine va_get (D := g.1) (ci := 0) (v := .ref (ad 10)) (C := RX0) (T := TX0) (N := 6) hx hb hts inX0_fill_RX0 hown hK hP 0 rfl rfl 3 (Nat.le_of_ble_eq_true rfl) (hts _ (List.mem_of_getElem? (i := 3) rfl)) (fun _ h9 => h9) rfl dX0_fill_15 ?_
  refine lv_iload_n hx hb dX0_fill_18 rfl (lv_at hl 1 rfl) ?_
  refine lv_iload hx hb dX0_fill_19 (lv_at hl 4 rfl) ?_
  refine va_iast (D := g.1) (f := (V 8)) hx hb hK hP hD hS 4 0 rfl rfl (az_vin i6) dX0_fill_21 (fun H locs hP hD hS => ?_)
  have hP : va_P g.1 az_cl (az_cB g ad (va_up (va_up (va_up V 6 (upd (V 6) x1.toNatClampNeg x2)) 7 (upd (V 7) x1.toNatClampNeg x3)) 8 (upd (V 8) x1.toNatClampNeg x4))) _ := hP
  have hD : va_D A (az_cB g ad (va_up (va_up (va_up V 6 (upd (V 6) x1.toNatClampNeg x2)) 7 (upd (V 7) x1.toNatClampNeg x3)) 8 (upd (V 8) x1.toNatClampNeg x4))) := hD
  have hP : va_P g.1 az_cl (az_cB g ad (va_up (va_up (va_up V 6 (upd (V 6) x1.toNatClampNeg x2)) 7 (upd (V 7) x1.toNatClampNeg x3)) 8 (upd (V 8) x1.toNatClampNeg x4))) _ := hP
  have hD : va_D A (az_cB g ad (va_up (va_up (va_up V 6 (upd (V 6) x1.toNatClampNeg x2)) 7 (upd (V 7) x1.toNatClampNeg x3)) 8 (upd (V 8) x1.toNatClampNeg x4))) := hD
  rw [← Option.some.inj h]
  exact az_vret hx hb hr hlocks hK hP hD hS dX0_fill_22

def FX0_erase_L2 : Nat → az_St → Int32 → Int32 → (Nat → Int32) → (Nat → Int32) → (Nat → Int32) → (Nat → Int32) → (Nat → Int32) → (Nat → Int32) → Int32 → Option ((Nat → Int32) × (Nat → Int32) × (Nat → Int32) × (Nat → Int32) × (Nat → Int32) × (Nat → Int32))
  | 0, _, _, _, _, _, _, _, _, _, _ => none
  | n + 1, V, x1, x2, wV5, wV6, wV7, wV8, wV9, wV10, y3 => if x2 ≤ y3 then (some (wV5, wV6, wV7, wV8, wV9, wV10)) else (if az_in y3 160 = true then (FX0_fill (va_up (va_up (va_up (va_up (va_up (va_up V 5 (upd wV5 y3.toNatClampNeg (0 : Int32))) 6 wV6) 7 wV7) 8 wV8) 9 wV9) 10 wV10) y3 (-1 : Int32) (-1 : Int32) (-1 : Int32)).bind (fun o19 => FX0_erase_L2 n V x1 x2 (upd wV5 y3.toNatClampNeg (0 : Int32)) o19.1 o19.2.1 o19.2.2 (upd wV9 y3.toNatClampNeg (-1 : Int32)) (upd wV10 y3.toNatClampNeg (0 : Int32)) (y3 + (1 : Int32))) else none)
theorem FX0_erase_L2_s (n : Nat) (V : az_St) (x1 : Int32) (x2 : Int32) (wV5 : Nat → Int32) (wV6 : Nat → Int32) (wV7 : Nat → Int32) (wV8 : Nat → Int32) (wV9 : Nat → Int32) (wV10 : Nat → Int32) (y3 : Int32) : FX0_erase_L2 (n + 1) V x1 x2 wV5 wV6 wV7 wV8 wV9 wV10 y3 = (if x2 ≤ y3 then (some (wV5, wV6, wV7, wV8, wV9, wV10)) else (if az_in y3 160 = true then (FX0_fill (va_up (va_up (va_up (va_up (va_up (va_up V 5 (upd wV5 y3.toNatClampNeg (0 : Int32))) 6 wV6) 7 wV7) 8 wV8) 9 wV9) 10 wV10) y3 (-1 : Int32) (-1 : Int32) (-1 : Int32)).bind (fun o19 => FX0_erase_L2 n V x1 x2 (upd wV5 y3.toNatClampNeg (0 : Int32)) o19.1 o19.2.1 o19.2.2 (upd wV9 y3.toNatClampNeg (-1 : Int32)) (upd wV10 y3.toNatClampNeg (0 : Int32)) (y3 + (1 : Int32))) else none)) := rfl
def FX0_erase (V : az_St) (x1 : Int32) (x2 : Int32) : Option ((Nat → Int32) × (Nat → Int32) × (Nat → Int32) × (Nat → Int32) × (Nat → Int32) × (Nat → Int32)) := FX0_erase_L2 az_fuel V x1 x2 (V 5) (V 6) (V 7) (V 8) (V 9) (V 10) x1
theorem inX0_erase_RX0 : ∀ w ∈ wsX00, w ∈ wsX0_erase := az_inr [12, 13, 14, 15, 16, 17] (by decide +kernel)
set_option maxHeartbeats 4000000 in
set_option maxRecDepth 100000 in
theorem kX0_erase (l : Launch) (g : az_G) (ad : Nat → Nat) (V : az_St) (x1 : Int32) (x2 : Int32) (o : (Nat → Int32) × (Nat → Int32) × (Nat → Int32) × (Nat → Int32) × (Nat → Int32) × (Nat → Int32)) (h : FX0_erase V x1 x2 = some o) : az_V l yX0_erase wsX0_erase ({ frames := 1, cells := 0, slots := 0, locals := 24 } : Room) [.ref (ad 6), .int x1, .int x2] g (az_cB g ad V) (az_cB g ad (va_up (va_up (va_up (va_up (va_up (va_up V 5 o.1) 6 o.2.1) 7 o.2.2.1) 8 o.2.2.2.1) 9 o.2.2.2.2.1) 10 o.2.2.2.2.2)) := by
  refine az_body (cc := cX0_erase) (maxL := 4) (ret := none) (Qc := fun A => az_QV g (az_cB g ad (va_up (va_up (va_up (va_up (va_up (va_up V 5 o.1) 6 o.2.1) 7 o.2.2.1) 8 o.2.2.2.1) 9 o.2.2.2.2.1) 10 o.2.2.2.2.2)) A) (by decide +kernel) rfl (Nat.le_of_ble_eq_true rfl) ?_
  intro p e s m args below meth c A hx hb hr hts hown hml hlocks hA hK hP hD hS ls hl
  have hl : lv_has ls 4 [(0, .ref (ad 6)), (1, .int x1), (2, .int x2)] := hl
  unfold FX0_erase at h
  have hL2 : ∀ (n : Nat) (wV5 : Nat → Int32) (wV6 : Nat → Int32) (wV7 : Nat → Int32) (wV8 : Nat → Int32) (wV9 : Nat → Int32) (wV10 : Nat → Int32) (y3 : Int32) (H : Heap) (locs : List Loc) (ls : Array Slot), FX0_erase_L2 n V x1 x2 wV5 wV6 wV7 wV8 wV9 wV10 y3 = some o → va_P g.1 az_cl (az_cB g ad (va_up (va_up (va_up (va_up (va_up (va_up V 5 wV5) 6 wV6) 7 wV7) 8 wV8) 9 wV9) 10 wV10)) H → va_D A (az_cB g ad (va_up (va_up (va_up (va_up (va_up (va_up V 5 wV5) 6 wV6) 7 wV7) 8 wV8) 9 wV9) 10 wV10)) → va_S A s.heap H locs → lv_has ls 4 [(0, .ref (ad 6)), (2, .int x2), (3, .int y3)] → W p l e ({ frames := 1, cells := 0, slots := 0, locals := 24 } : Room) s m args below meth c H locs 0 0 (MQ below (az_QV g (az_cB g ad (va_up (va_up (va_up (va_up (va_up (va_up V 5 o.1) 6 o.2.1) 7 o.2.2.1) 8 o.2.2.2.1) 9 o.2.2.2.2.1) 10 o.2.2.2.2.2)) A) args s 0 0 A) (F0 m 2 ls []) := by
    intro n
    induction n with
    | zero => intro wV5 wV6 wV7 wV8 wV9 wV10 y3 H locs ls h; exact az_non h
    | succ n ih =>
      intro wV5 wV6 wV7 wV8 wV9 wV10 y3 H locs ls h hP hD hS hl
      rw [FX0_erase_L2_s] at h
      refine lv_iload_n hx hb dX0_erase_2 rfl (lv_at hl 2 rfl) ?_
      refine lv_iload_n hx hb dX0_erase_3 rfl (lv_at hl 1 rfl) ?_
      refine lv_icmp_ge (tgt := 42) hx hb dX0_erase_4 (by decide) (fun c4 => ?_) (fun c4 => ?_)
      · replace h := az_pos c4 h
        have hP : va_P g.1 az_cl (az_cB g ad (va_up (va_up (va_up (va_up (va_up (va_up V 5 wV5) 6 wV6) 7 wV7) 8 wV8) 9 wV9) 10 wV10)) _ := hP
        have hD : va_D A (az_cB g ad (va_up (va_up (va_up (va_up (va_up (va_up V 5 wV5) 6 wV6) 7 wV7) 8 wV8) 9 wV9) 10 wV10)) := hD
        rw [← Option.some.inj h]
        exact az_vret hx hb hr hlocks hK hP hD hS dX0_erase_42
      · replace h := az_neg c4 h
        refine lv_aload_n hx hb dX0_erase_7 rfl (lv_at hl 0 rfl) ?_
        refine va_get (D := g.1) (ci := 0) (v := .ref (ad 7)) (C := RX0) (T := TX0) (N := 6) hx hb hts inX0_erase_RX0 hown hK hP 0 rfl rfl 0 (Nat.le_of_ble_eq_true rfl) (hts _ (List.mem_of_getElem? (i := 1) rfl)) (fun _ h9 => h9) rfl dX0_erase_8 ?_
        refine lv_iload_n hx hb dX0_erase_11 rfl (lv_at hl 2 rfl) ?_
        refine lv_iconst (v := (0 : Int32)) hx hb dX0_erase_12 (by decide) ?_
        obtain ⟨i13, h⟩ := az_ite h
        refine va_iast (D := g.1) (f := wV5) hx hb hK hP hD hS 1 0 rfl rfl (az_vin i13) dX0_erase_13 (fun H locs hP hD hS => ?_)
        have hP : va_P g.1 az_cl (az_cB g ad (va_up (va_up (va_up (va_up (va_up (va_up V 5 (upd wV5 y3.toNatClampNeg (0 : Int32))) 6 wV6) 7 wV7) 8 wV8) 9 wV9) 10 wV10)) _ := hP
        have hD : va_D A (az_cB g ad (va_up (va_up (va_up (va_up (va_up (va_up V 5 (upd wV5 y3.toNatClampNeg (0 : Int32))) 6 wV6) 7 wV7) 8 wV8) 9 wV9) 10 wV10)) := hD
        refine lv_aload_n hx hb dX0_erase_14 rfl (lv_at hl 0 rfl) ?_
        refine lv_iload_n hx hb dX0_erase_15 rfl (lv_at hl 2 rfl) ?_
        refine lv_iconst (v := (-1 : Int32)) hx hb dX0_erase_16 (by decide) ?_
        refine lv_iconst (v := (-1 : Int32)) hx hb dX0_erase_17 (by decide) ?_
        refine lv_iconst (v := (-1 : Int32)) hx hb dX0_erase_18 (by decide) ?_
        obtain ⟨o19, hc19, h⟩ := az_bnd h
        refine az_callVv (w2 := az_cB g ad (va_up (va_up (va_up (va_up (va_up (va_up V 5 (upd wV5 y3.toNatClampNeg (0 : Int32))) 6 o19.1) 7 o19.2.1) 8 o19.2.2) 9 wV9) 10 wV10)) (As := [.int y3, .int (-1 : Int32), .int (-1 : Int32), .int (-1 : Int32)]) (rest := []) ⟨hx, hb, hml, hown, hts⟩ hl.1 (kX0_fill l g ad (va_up (va_up (va_up (va_up (va_up (va_up V 5 (upd wV5 y3.toNatClampNeg (0 : Int32))) 6 wV6) 7 wV7) 8 wV8) 9 wV9) 10 wV10) y3 (-1 : Int32) (-1 : Int32) (-1 : Int32) o19 hc19) (cwV 4 hts gX0_erase_X0_fill rfl rfl rfl (by decide +kernel) ⟨Nat.le_of_ble_eq_true rfl, Nat.le_of_ble_eq_true rfl⟩) rfl hK hP hD hS hA [0, 1, 2, 3, 4, 5, 6] [] [0, 1, 2, 3, 4, 5, 6] rfl rfl rfl rfl rfl (by decide) rfl rfl rfl 0 rfl rfl rfl (Nat.le_of_ble_eq_true rfl) dX0_erase_19 ⟨Nat.zero_le _, Nat.zero_le _⟩ rfl (fun H locs hP hD hS => ?_)
        refine lv_aload_n hx hb dX0_erase_22 rfl (lv_at hl 0 rfl) ?_
        refine va_get (D := g.1) (ci := 0) (v := .ref (ad 11)) (C := RX0) (T := TX0) (N := 6) hx hb hts inX0_erase_RX0 hown hK hP 0 rfl rfl 4 (Nat.le_of_ble_eq_true rfl) (hts _ (List.mem_of_getElem? (i := 2) rfl)) (fun _ h9 => h9) rfl dX0_erase_23 ?_
        refine lv_iload_n hx hb dX0_erase_26 rfl (lv_at hl 2 rfl) ?_
        refine lv_iconst (v := (-1 : Int32)) hx hb dX0_erase_27 (by decide) ?_
        refine va_iast (D := g.1) (f := wV9) hx hb hK hP hD hS 5 0 rfl rfl (az_vin i13) dX0_erase_28 (fun H locs hP hD hS => ?_)
        have hP : va_P g.1 az_cl (az_cB g ad (va_up (va_up (va_up (va_up (va_up (va_up V 5 (upd wV5 y3.toNatClampNeg (0 : Int32))) 6 o19.1) 7 o19.2.1) 8 o19.2.2) 9 (upd wV9 y3.toNatClampNeg (-1 : Int32))) 10 wV10)) _ := hP
        have hD : va_D A (az_cB g ad (va_up (va_up (va_up (va_up (va_up (va_up V 5 (upd wV5 y3.toNatClampNeg (0 : Int32))) 6 o19.1) 7 o19.2.1) 8 o19.2.2) 9 (upd wV9 y3.toNatClampNeg (-1 : Int32))) 10 wV10)) := hD
        refine lv_aload_n hx hb dX0_erase_29 rfl (lv_at hl 0 rfl) ?_
        refine va_get (D := g.1) (ci := 0) (v := .ref (ad 12)) (C := RX0) (T := TX0) (N := 6) hx hb hts inX0_erase_RX0 hown hK hP 0 rfl rfl 5 (Nat.le_of_ble_eq_true rfl) (hts _ (List.mem_of_getElem? (i := 3) rfl)) (fun _ h9 => h9) rfl dX0_erase_30 ?_
        refine lv_iload_n hx hb dX0_erase_33 rfl (lv_at hl 2 rfl) ?_
        refine lv_iconst (v := (0 : Int32)) hx hb dX0_erase_34 (by decide) ?_
        refine va_iast (D := g.1) (f := wV10) hx hb hK hP hD hS 6 0 rfl rfl (az_vin i13) dX0_erase_35 (fun H locs hP hD hS => ?_)
        have hP : va_P g.1 az_cl (az_cB g ad (va_up (va_up (va_up (va_up (va_up (va_up V 5 (upd wV5 y3.toNatClampNeg (0 : Int32))) 6 o19.1) 7 o19.2.1) 8 o19.2.2) 9 (upd wV9 y3.toNatClampNeg (-1 : Int32))) 10 (upd wV10 y3.toNatClampNeg (0 : Int32)))) _ := hP
        have hD : va_D A (az_cB g ad (va_up (va_up (va_up (va_up (va_up (va_up V 5 (upd wV5 y3.toNatClampNeg (0 : Int32))) 6 o19.1) 7 o19.2.1) 8 o19.2.2) 9 (upd wV9 y3.toNatClampNeg (-1 : Int32))) 10 (upd wV10 y3.toNatClampNeg (0 : Int32)))) := hD
        refine lv_iinc (v := y3 + (1 : Int32)) (lv' := [(3, .int (y3 + (1 : Int32))), (0, .ref (ad 6)), (2, .int x2)]) hx hb dX0_erase_36 hl (k := 2) rfl (rfl) (by decide) rfl (fun ls hl => ?_)
        refine lv_goto (tgt := 2) hx hb dX0_erase_39 (by decide) ?_
        have hP : va_P g.1 az_cl (az_cB g ad (va_up (va_up (va_up (va_up (va_up (va_up V 5 (upd wV5 y3.toNatClampNeg (0 : Int32))) 6 o19.1) 7 o19.2.1) 8 o19.2.2) 9 (upd wV9 y3.toNatClampNeg (-1 : Int32))) 10 (upd wV10 y3.toNatClampNeg (0 : Int32)))) _ := hP
        have hD : va_D A (az_cB g ad (va_up (va_up (va_up (va_up (va_up (va_up V 5 (upd wV5 y3.toNatClampNeg (0 : Int32))) 6 o19.1) 7 o19.2.1) 8 o19.2.2) 9 (upd wV9 y3.toNatClampNeg (-1 : Int32))) 10 (upd wV10 y3.toNatClampNeg (0 : Int32)))) := hD
        exact ih (upd wV5 y3.toNatClampNeg (0 : Int32)) o19.1 o19.2.1 o19.2.2 (upd wV9 y3.toNatClampNeg (-1 : Int32)) (upd wV10 y3.toNatClampNeg (0 : Int32)) (y3 + (1 : Int32)) _ _ ls h hP hD hS (lv_sub hl [1, 2, 0] rfl)
  refine lv_iload_n hx hb dX0_erase_0 rfl (lv_at hl 1 rfl) ?_
  refine lv_istore_n (lv' := [(3, .int x1), (0, .ref (ad 6)), (1, .int x1), (2, .int x2)]) hx hb dX0_erase_1 rfl hl (by decide) rfl (fun ls hl => ?_)
  have hP : va_P g.1 az_cl (az_cB g ad (va_up (va_up (va_up (va_up (va_up (va_up V 5 (V 5)) 6 (V 6)) 7 (V 7)) 8 (V 8)) 9 (V 9)) 10 (V 10))) _ := hP
  have hD : va_D A (az_cB g ad (va_up (va_up (va_up (va_up (va_up (va_up V 5 (V 5)) 6 (V 6)) 7 (V 7)) 8 (V 8)) 9 (V 9)) 10 (V 10))) := hD
  exact hL2 az_fuel (V 5) (V 6) (V 7) (V 8) (V 9) (V 10) x1 _ _ ls h hP hD hS (lv_sub hl [1, 3, 0] rfl)

def FX0_begin (V : az_St) : Option ((Nat → Int32) × (Nat → Int32) × (Nat → Int32) × (Nat → Int32) × (Nat → Int32) × (Nat → Int32)) := (FX0_erase V (0 : Int32) (160 : Int32)).bind (fun o5 => some (o5.1, o5.2.1, o5.2.2.1, o5.2.2.2.1, o5.2.2.2.2.1, o5.2.2.2.2.2))
set_option maxHeartbeats 4000000 in
set_option maxRecDepth 100000 in
theorem kX0_begin (l : Launch) (g : az_G) (ad : Nat → Nat) (V : az_St) (o : (Nat → Int32) × (Nat → Int32) × (Nat → Int32) × (Nat → Int32) × (Nat → Int32) × (Nat → Int32)) (h : FX0_begin V = some o) : az_V l yX0_begin wsX0_begin ({ frames := 2, cells := 0, slots := 0, locals := 47 } : Room) [.ref (ad 6)] g (az_cB g ad V) (az_cB g ad (va_up (va_up (va_up (va_up (va_up (va_up V 5 o.1) 6 o.2.1) 7 o.2.2.1) 8 o.2.2.2.1) 9 o.2.2.2.2.1) 10 o.2.2.2.2.2)) := by
  refine az_body (cc := cX0_begin) (maxL := 1) (ret := none) (Qc := fun A => az_QV g (az_cB g ad (va_up (va_up (va_up (va_up (va_up (va_up V 5 o.1) 6 o.2.1) 7 o.2.2.1) 8 o.2.2.2.1) 9 o.2.2.2.2.1) 10 o.2.2.2.2.2)) A) (by decide +kernel) rfl (Nat.le_of_ble_eq_true rfl) ?_
  intro p e s m args below meth c A hx hb hr hts hown hml hlocks hA hK hP hD hS ls hl
  have hl : lv_has ls 1 [(0, .ref (ad 6))] := hl
  unfold FX0_begin at h
  refine lv_aload_n hx hb dX0_begin_0 rfl (lv_at hl 0 rfl) ?_
  refine lv_iconst (v := (0 : Int32)) hx hb dX0_begin_1 (by decide) ?_
  refine lv_sipush (v := (160 : Int32)) hx hb dX0_begin_2 (by decide) ?_
  obtain ⟨o5, hc5, h⟩ := az_bnd h
  refine az_callVv (w2 := az_cB g ad (va_up (va_up (va_up (va_up (va_up (va_up V 5 o5.1) 6 o5.2.1) 7 o5.2.2.1) 8 o5.2.2.2.1) 9 o5.2.2.2.2.1) 10 o5.2.2.2.2.2)) (As := [.int (0 : Int32), .int (160 : Int32)]) (rest := []) ⟨hx, hb, hml, hown, hts⟩ hl.1 (kX0_erase l g ad V (0 : Int32) (160 : Int32) o5 hc5) (cwV 2 hts gX0_begin_X0_erase rfl rfl rfl (by decide +kernel) ⟨Nat.le_of_ble_eq_true rfl, Nat.le_of_ble_eq_true rfl⟩) rfl hK hP hD hS hA [0, 1, 2, 3, 4, 5, 6] [] [0, 1, 2, 3, 4, 5, 6] rfl rfl rfl rfl rfl (by decide) rfl rfl rfl 0 rfl rfl rfl (Nat.le_of_ble_eq_true rfl) dX0_begin_5 ⟨Nat.zero_le _, Nat.zero_le _⟩ rfl (fun H locs hP hD hS => ?_)
  have hP : va_P g.1 az_cl (az_cB g ad (va_up (va_up (va_up (va_up (va_up (va_up V 5 o5.1) 6 o5.2.1) 7 o5.2.2.1) 8 o5.2.2.2.1) 9 o5.2.2.2.2.1) 10 o5.2.2.2.2.2)) _ := hP
  have hD : va_D A (az_cB g ad (va_up (va_up (va_up (va_up (va_up (va_up V 5 o5.1) 6 o5.2.1) 7 o5.2.2.1) 8 o5.2.2.2.1) 9 o5.2.2.2.2.1) 10 o5.2.2.2.2.2)) := hD
  rw [← Option.some.inj h]
  exact az_vret hx hb hr hlocks hK hP hD hS dX0_begin_8

def FX0_copyFrom (V : az_St) (O : az_St) : Option ((Nat → Int32) × (Nat → Int32) × (Nat → Int32) × (Nat → Int32) × (Nat → Int32) × (Nat → Int32)) := some (va_cpy (O 5) (V 5) (0 : Int32).toNatClampNeg (0 : Int32).toNatClampNeg (160 : Int32).toNatClampNeg, va_cpy (O 6) (V 6) (0 : Int32).toNatClampNeg (0 : Int32).toNatClampNeg (160 : Int32).toNatClampNeg, va_cpy (O 7) (V 7) (0 : Int32).toNatClampNeg (0 : Int32).toNatClampNeg (160 : Int32).toNatClampNeg, va_cpy (O 8) (V 8) (0 : Int32).toNatClampNeg (0 : Int32).toNatClampNeg (160 : Int32).toNatClampNeg, va_cpy (O 9) (V 9) (0 : Int32).toNatClampNeg (0 : Int32).toNatClampNeg (160 : Int32).toNatClampNeg, va_cpy (O 10) (V 10) (0 : Int32).toNatClampNeg (0 : Int32).toNatClampNeg (160 : Int32).toNatClampNeg)
theorem inX0_copyFrom_RX0 : ∀ w ∈ wsX00, w ∈ wsX0_copyFrom := az_inr [11, 12, 13, 14, 15, 16] (by decide +kernel)
set_option maxHeartbeats 4000000 in
set_option maxRecDepth 100000 in
theorem kX0_copyFrom (l : Launch) (g : az_G) (ad : Nat → Nat) (ad2 : Nat → Nat) (V : az_St) (O : az_St) (o : (Nat → Int32) × (Nat → Int32) × (Nat → Int32) × (Nat → Int32) × (Nat → Int32) × (Nat → Int32)) (h : FX0_copyFrom V O = some o) : az_V l yX0_copyFrom wsX0_copyFrom ({ frames := 1, cells := 0, slots := 0, locals := 100 } : Room) [.ref (ad 6), .ref (ad2 6)] g ((az_cB g ad V ++ az_cB g ad2 O)) ((az_cB g ad (va_up (va_up (va_up (va_up (va_up (va_up V 5 o.1) 6 o.2.1) 7 o.2.2.1) 8 o.2.2.2.1) 9 o.2.2.2.2.1) 10 o.2.2.2.2.2) ++ az_cB g ad2 O)) := by
  refine az_body (cc := cX0_copyFrom) (maxL := 2) (ret := none) (Qc := fun A => az_QV g ((az_cB g ad (va_up (va_up (va_up (va_up (va_up (va_up V 5 o.1) 6 o.2.1) 7 o.2.2.1) 8 o.2.2.2.1) 9 o.2.2.2.2.1) 10 o.2.2.2.2.2) ++ az_cB g ad2 O)) A) (by decide +kernel) rfl (Nat.le_of_ble_eq_true rfl) ?_
  intro p e s m args below meth c A hx hb hr hts hown hml hlocks hA hK hP hD hS ls hl
  have hl : lv_has ls 2 [(0, .ref (ad 6)), (1, .ref (ad2 6))] := hl
  unfold FX0_copyFrom at h
  refine lv_aload_n hx hb dX0_copyFrom_0 rfl (lv_at hl 1 rfl) ?_
  refine va_get (D := g.1) (ci := 0) (v := .ref (ad2 7)) (C := RX0) (T := TX0) (N := 6) hx hb hts inX0_copyFrom_RX0 hown hK hP 7 rfl rfl 0 (Nat.le_of_ble_eq_true rfl) (hts _ (List.mem_of_getElem? (i := 1) rfl)) (fun _ h9 => h9) rfl dX0_copyFrom_1 ?_
  refine lv_iconst (v := (0 : Int32)) hx hb dX0_copyFrom_4 (by decide) ?_
  refine lv_aload_n hx hb dX0_copyFrom_5 rfl (lv_at hl 0 rfl) ?_
  refine va_get (D := g.1) (ci := 0) (v := .ref (ad 7)) (C := RX0) (T := TX0) (N := 6) hx hb hts inX0_copyFrom_RX0 hown hK hP 0 rfl rfl 0 (Nat.le_of_ble_eq_true rfl) (hts _ (List.mem_of_getElem? (i := 1) rfl)) (fun _ h9 => h9) rfl dX0_copyFrom_6 ?_
  refine lv_iconst (v := (0 : Int32)) hx hb dX0_copyFrom_9 (by decide) ?_
  refine lv_sipush (v := (160 : Int32)) hx hb dX0_copyFrom_10 (by decide) ?_
  refine va_copyi (D := g.1) (f := (O 5)) (g := (V 5)) (ty := .int) hx hb (hml.trans hl.1.symm) hown (hts _ (List.mem_of_getElem? (i := 2) rfl)) (hts _ (List.mem_of_getElem? (i := 3) rfl)) (hts _ (List.mem_of_getElem? (i := 4) rfl)) (hts _ (List.mem_of_getElem? (i := 5) rfl)) hK hP hD hS 8 1 0 0 rfl rfl rfl rfl rfl (by decide) (by decide) (by decide) (Nat.le_of_ble_eq_true rfl) (Nat.le_of_ble_eq_true rfl) (fun _ _ => rfl) (Nat.le_of_ble_eq_true rfl) (by decide +kernel) dX0_copyFrom_13 (fun H locs hP hD hS => ?_)
  have hP : va_P g.1 az_cl ((az_cB g ad (va_up V 5 (va_cpy (O 5) (V 5) (0 : Int32).toNatClampNeg (0 : Int32).toNatClampNeg (160 : Int32).toNatClampNeg)) ++ az_cB g ad2 O)) _ := hP
  have hD : va_D A ((az_cB g ad (va_up V 5 (va_cpy (O 5) (V 5) (0 : Int32).toNatClampNeg (0 : Int32).toNatClampNeg (160 : Int32).toNatClampNeg)) ++ az_cB g ad2 O)) := hD
  refine lv_aload_n hx hb dX0_copyFrom_16 rfl (lv_at hl 1 rfl) ?_
  refine va_get (D := g.1) (ci := 0) (v := .ref (ad2 8)) (C := RX0) (T := TX0) (N := 6) hx hb hts inX0_copyFrom_RX0 hown hK hP 7 rfl rfl 1 (Nat.le_of_ble_eq_true rfl) (hts _ (List.mem_of_getElem? (i := 6) rfl)) (fun _ h9 => h9) rfl dX0_copyFrom_17 ?_
  refine lv_iconst (v := (0 : Int32)) hx hb dX0_copyFrom_20 (by decide) ?_
  refine lv_aload_n hx hb dX0_copyFrom_21 rfl (lv_at hl 0 rfl) ?_
  refine va_get (D := g.1) (ci := 0) (v := .ref (ad 8)) (C := RX0) (T := TX0) (N := 6) hx hb hts inX0_copyFrom_RX0 hown hK hP 0 rfl rfl 1 (Nat.le_of_ble_eq_true rfl) (hts _ (List.mem_of_getElem? (i := 6) rfl)) (fun _ h9 => h9) rfl dX0_copyFrom_22 ?_
  refine lv_iconst (v := (0 : Int32)) hx hb dX0_copyFrom_25 (by decide) ?_
  refine lv_sipush (v := (160 : Int32)) hx hb dX0_copyFrom_26 (by decide) ?_
  refine va_copyi (D := g.1) (f := (O 6)) (g := (V 6)) (ty := .int) hx hb (hml.trans hl.1.symm) hown (hts _ (List.mem_of_getElem? (i := 2) rfl)) (hts _ (List.mem_of_getElem? (i := 3) rfl)) (hts _ (List.mem_of_getElem? (i := 4) rfl)) (hts _ (List.mem_of_getElem? (i := 5) rfl)) hK hP hD hS 9 2 0 0 rfl rfl rfl rfl rfl (by decide) (by decide) (by decide) (Nat.le_of_ble_eq_true rfl) (Nat.le_of_ble_eq_true rfl) (fun _ _ => rfl) (Nat.le_of_ble_eq_true rfl) (by decide +kernel) dX0_copyFrom_29 (fun H locs hP hD hS => ?_)
  have hP : va_P g.1 az_cl ((az_cB g ad (va_up (va_up V 5 (va_cpy (O 5) (V 5) (0 : Int32).toNatClampNeg (0 : Int32).toNatClampNeg (160 : Int32).toNatClampNeg)) 6 (va_cpy (O 6) (V 6) (0 : Int32).toNatClampNeg (0 : Int32).toNatClampNeg (160 : Int32).toNatClampNeg)) ++ az_cB g ad2 O)) _ := hP
  have hD : va_D A ((az_cB g ad (va_up (va_up V 5 (va_cpy (O 5) (V 5) (0 : Int32).toNatClampNeg (0 : Int32).toNatClampNeg (160 : Int32).toNatClampNeg)) 6 (va_cpy (O 6) (V 6) (0 : Int32).toNatClampNeg (0 : Int32).toNatClampNeg (160 : Int32).toNatClampNeg)) ++ az_cB g ad2 O)) := hD
  refine lv_aload_n hx hb dX0_copyFrom_32 rfl (lv_at hl 1 rfl) ?_
  refine va_get (D := g.1) (ci := 0) (v := .ref (ad2 9)) (C := RX0) (T := TX0) (N := 6) hx hb hts inX0_copyFrom_RX0 hown hK hP 7 rfl rfl 2 (Nat.le_of_ble_eq_true rfl) (hts _ (List.mem_of_getElem? (i := 7) rfl)) (fun _ h9 => h9) rfl dX0_copyFrom_33 ?_
  refine lv_iconst (v := (0 : Int32)) hx hb dX0_copyFrom_36 (by decide) ?_
  refine lv_aload_n hx hb dX0_copyFrom_37 rfl (lv_at hl 0 rfl) ?_
  refine va_get (D := g.1) (ci := 0) (v := .ref (ad 9)) (C := RX0) (T := TX0) (N := 6) hx hb hts inX0_copyFrom_RX0 hown hK hP 0 rfl rfl 2 (Nat.le_of_ble_eq_true rfl) (hts _ (List.mem_of_getElem? (i := 7) rfl)) (fun _ h9 => h9) rfl dX0_copyFrom_38 ?_
  refine lv_iconst (v := (0 : Int32)) hx hb dX0_copyFrom_41 (by decide) ?_
  refine lv_sipush (v := (160 : Int32)) hx hb dX0_copyFrom_42 (by decide) ?_
  refine va_copyi (D := g.1) (f := (O 7)) (g := (V 7)) (ty := .int) hx hb (hml.trans hl.1.symm) hown (hts _ (List.mem_of_getElem? (i := 2) rfl)) (hts _ (List.mem_of_getElem? (i := 3) rfl)) (hts _ (List.mem_of_getElem? (i := 4) rfl)) (hts _ (List.mem_of_getElem? (i := 5) rfl)) hK hP hD hS 10 3 0 0 rfl rfl rfl rfl rfl (by decide) (by decide) (by decide) (Nat.le_of_ble_eq_true rfl) (Nat.le_of_ble_eq_true rfl) (fun _ _ => rfl) (Nat.le_of_ble_eq_true rfl) (by decide +kernel) dX0_copyFrom_45 (fun H locs hP hD hS => ?_)
  have hP : va_P g.1 az_cl ((az_cB g ad (va_up (va_up (va_up V 5 (va_cpy (O 5) (V 5) (0 : Int32).toNatClampNeg (0 : Int32).toNatClampNeg (160 : Int32).toNatClampNeg)) 6 (va_cpy (O 6) (V 6) (0 : Int32).toNatClampNeg (0 : Int32).toNatClampNeg (160 : Int32).toNatClampNeg)) 7 (va_cpy (O 7) (V 7) (0 : Int32).toNatClampNeg (0 : Int32).toNatClampNeg (160 : Int32).toNatClampNeg)) ++ az_cB g ad2 O)) _ := hP
  have hD : va_D A ((az_cB g ad (va_up (va_up (va_up V 5 (va_cpy (O 5) (V 5) (0 : Int32).toNatClampNeg (0 : Int32).toNatClampNeg (160 : Int32).toNatClampNeg)) 6 (va_cpy (O 6) (V 6) (0 : Int32).toNatClampNeg (0 : Int32).toNatClampNeg (160 : Int32).toNatClampNeg)) 7 (va_cpy (O 7) (V 7) (0 : Int32).toNatClampNeg (0 : Int32).toNatClampNeg (160 : Int32).toNatClampNeg)) ++ az_cB g ad2 O)) := hD
  refine lv_aload_n hx hb dX0_copyFrom_48 rfl (lv_at hl 1 rfl) ?_
  refine va_get (D := g.1) (ci := 0) (v := .ref (ad2 10)) (C := RX0) (T := TX0) (N := 6) hx hb hts inX0_copyFrom_RX0 hown hK hP 7 rfl rfl 3 (Nat.le_of_ble_eq_true rfl) (hts _ (List.mem_of_getElem? (i := 8) rfl)) (fun _ h9 => h9) rfl dX0_copyFrom_49 ?_
  refine lv_iconst (v := (0 : Int32)) hx hb dX0_copyFrom_52 (by decide) ?_
  refine lv_aload_n hx hb dX0_copyFrom_53 rfl (lv_at hl 0 rfl) ?_
  refine va_get (D := g.1) (ci := 0) (v := .ref (ad 10)) (C := RX0) (T := TX0) (N := 6) hx hb hts inX0_copyFrom_RX0 hown hK hP 0 rfl rfl 3 (Nat.le_of_ble_eq_true rfl) (hts _ (List.mem_of_getElem? (i := 8) rfl)) (fun _ h9 => h9) rfl dX0_copyFrom_54 ?_
  refine lv_iconst (v := (0 : Int32)) hx hb dX0_copyFrom_57 (by decide) ?_
  refine lv_sipush (v := (160 : Int32)) hx hb dX0_copyFrom_58 (by decide) ?_
  refine va_copyi (D := g.1) (f := (O 8)) (g := (V 8)) (ty := .int) hx hb (hml.trans hl.1.symm) hown (hts _ (List.mem_of_getElem? (i := 2) rfl)) (hts _ (List.mem_of_getElem? (i := 3) rfl)) (hts _ (List.mem_of_getElem? (i := 4) rfl)) (hts _ (List.mem_of_getElem? (i := 5) rfl)) hK hP hD hS 11 4 0 0 rfl rfl rfl rfl rfl (by decide) (by decide) (by decide) (Nat.le_of_ble_eq_true rfl) (Nat.le_of_ble_eq_true rfl) (fun _ _ => rfl) (Nat.le_of_ble_eq_true rfl) (by decide +kernel) dX0_copyFrom_61 (fun H locs hP hD hS => ?_)
  have hP : va_P g.1 az_cl ((az_cB g ad (va_up (va_up (va_up (va_up V 5 (va_cpy (O 5) (V 5) (0 : Int32).toNatClampNeg (0 : Int32).toNatClampNeg (160 : Int32).toNatClampNeg)) 6 (va_cpy (O 6) (V 6) (0 : Int32).toNatClampNeg (0 : Int32).toNatClampNeg (160 : Int32).toNatClampNeg)) 7 (va_cpy (O 7) (V 7) (0 : Int32).toNatClampNeg (0 : Int32).toNatClampNeg (160 : Int32).toNatClampNeg)) 8 (va_cpy (O 8) (V 8) (0 : Int32).toNatClampNeg (0 : Int32).toNatClampNeg (160 : Int32).toNatClampNeg)) ++ az_cB g ad2 O)) _ := hP
  have hD : va_D A ((az_cB g ad (va_up (va_up (va_up (va_up V 5 (va_cpy (O 5) (V 5) (0 : Int32).toNatClampNeg (0 : Int32).toNatClampNeg (160 : Int32).toNatClampNeg)) 6 (va_cpy (O 6) (V 6) (0 : Int32).toNatClampNeg (0 : Int32).toNatClampNeg (160 : Int32).toNatClampNeg)) 7 (va_cpy (O 7) (V 7) (0 : Int32).toNatClampNeg (0 : Int32).toNatClampNeg (160 : Int32).toNatClampNeg)) 8 (va_cpy (O 8) (V 8) (0 : Int32).toNatClampNeg (0 : Int32).toNatClampNeg (160 : Int32).toNatClampNeg)) ++ az_cB g ad2 O)) := hD
  refine lv_aload_n hx hb dX0_copyFrom_64 rfl (lv_at hl 1 rfl) ?_
  refine va_get (D := g.1) (ci := 0) (v := .ref (ad2 11)) (C := RX0) (T := TX0) (N := 6) hx hb hts inX0_copyFrom_RX0 hown hK hP 7 rfl rfl 4 (Nat.le_of_ble_eq_true rfl) (hts _ (List.mem_of_getElem? (i := 9) rfl)) (fun _ h9 => h9) rfl dX0_copyFrom_65 ?_
  refine lv_iconst (v := (0 : Int32)) hx hb dX0_copyFrom_68 (by decide) ?_
  refine lv_aload_n hx hb dX0_copyFrom_69 rfl (lv_at hl 0 rfl) ?_
  refine va_get (D := g.1) (ci := 0) (v := .ref (ad 11)) (C := RX0) (T := TX0) (N := 6) hx hb hts inX0_copyFrom_RX0 hown hK hP 0 rfl rfl 4 (Nat.le_of_ble_eq_true rfl) (hts _ (List.mem_of_getElem? (i := 9) rfl)) (fun _ h9 => h9) rfl dX0_copyFrom_70 ?_
  refine lv_iconst (v := (0 : Int32)) hx hb dX0_copyFrom_73 (by decide) ?_
  refine lv_sipush (v := (160 : Int32)) hx hb dX0_copyFrom_74 (by decide) ?_
  refine va_copyi (D := g.1) (f := (O 9)) (g := (V 9)) (ty := .int) hx hb (hml.trans hl.1.symm) hown (hts _ (List.mem_of_getElem? (i := 2) rfl)) (hts _ (List.mem_of_getElem? (i := 3) rfl)) (hts _ (List.mem_of_getElem? (i := 4) rfl)) (hts _ (List.mem_of_getElem? (i := 5) rfl)) hK hP hD hS 12 5 0 0 rfl rfl rfl rfl rfl (by decide) (by decide) (by decide) (Nat.le_of_ble_eq_true rfl) (Nat.le_of_ble_eq_true rfl) (fun _ _ => rfl) (Nat.le_of_ble_eq_true rfl) (by decide +kernel) dX0_copyFrom_77 (fun H locs hP hD hS => ?_)
  have hP : va_P g.1 az_cl ((az_cB g ad (va_up (va_up (va_up (va_up (va_up V 5 (va_cpy (O 5) (V 5) (0 : Int32).toNatClampNeg (0 : Int32).toNatClampNeg (160 : Int32).toNatClampNeg)) 6 (va_cpy (O 6) (V 6) (0 : Int32).toNatClampNeg (0 : Int32).toNatClampNeg (160 : Int32).toNatClampNeg)) 7 (va_cpy (O 7) (V 7) (0 : Int32).toNatClampNeg (0 : Int32).toNatClampNeg (160 : Int32).toNatClampNeg)) 8 (va_cpy (O 8) (V 8) (0 : Int32).toNatClampNeg (0 : Int32).toNatClampNeg (160 : Int32).toNatClampNeg)) 9 (va_cpy (O 9) (V 9) (0 : Int32).toNatClampNeg (0 : Int32).toNatClampNeg (160 : Int32).toNatClampNeg)) ++ az_cB g ad2 O)) _ := hP
  have hD : va_D A ((az_cB g ad (va_up (va_up (va_up (va_up (va_up V 5 (va_cpy (O 5) (V 5) (0 : Int32).toNatClampNeg (0 : Int32).toNatClampNeg (160 : Int32).toNatClampNeg)) 6 (va_cpy (O 6) (V 6) (0 : Int32).toNatClampNeg (0 : Int32).toNatClampNeg (160 : Int32).toNatClampNeg)) 7 (va_cpy (O 7) (V 7) (0 : Int32).toNatClampNeg (0 : Int32).toNatClampNeg (160 : Int32).toNatClampNeg)) 8 (va_cpy (O 8) (V 8) (0 : Int32).toNatClampNeg (0 : Int32).toNatClampNeg (160 : Int32).toNatClampNeg)) 9 (va_cpy (O 9) (V 9) (0 : Int32).toNatClampNeg (0 : Int32).toNatClampNeg (160 : Int32).toNatClampNeg)) ++ az_cB g ad2 O)) := hD
  refine lv_aload_n hx hb dX0_copyFrom_80 rfl (lv_at hl 1 rfl) ?_
  refine va_get (D := g.1) (ci := 0) (v := .ref (ad2 12)) (C := RX0) (T := TX0) (N := 6) hx hb hts inX0_copyFrom_RX0 hown hK hP 7 rfl rfl 5 (Nat.le_of_ble_eq_true rfl) (hts _ (List.mem_of_getElem? (i := 10) rfl)) (fun _ h9 => h9) rfl dX0_copyFrom_81 ?_
  refine lv_iconst (v := (0 : Int32)) hx hb dX0_copyFrom_84 (by decide) ?_
  refine lv_aload_n hx hb dX0_copyFrom_85 rfl (lv_at hl 0 rfl) ?_
  refine va_get (D := g.1) (ci := 0) (v := .ref (ad 12)) (C := RX0) (T := TX0) (N := 6) hx hb hts inX0_copyFrom_RX0 hown hK hP 0 rfl rfl 5 (Nat.le_of_ble_eq_true rfl) (hts _ (List.mem_of_getElem? (i := 10) rfl)) (fun _ h9 => h9) rfl dX0_copyFrom_86 ?_
  refine lv_iconst (v := (0 : Int32)) hx hb dX0_copyFrom_89 (by decide) ?_
  refine lv_sipush (v := (160 : Int32)) hx hb dX0_copyFrom_90 (by decide) ?_
  refine va_copyi (D := g.1) (f := (O 10)) (g := (V 10)) (ty := .int) hx hb (hml.trans hl.1.symm) hown (hts _ (List.mem_of_getElem? (i := 2) rfl)) (hts _ (List.mem_of_getElem? (i := 3) rfl)) (hts _ (List.mem_of_getElem? (i := 4) rfl)) (hts _ (List.mem_of_getElem? (i := 5) rfl)) hK hP hD hS 13 6 0 0 rfl rfl rfl rfl rfl (by decide) (by decide) (by decide) (Nat.le_of_ble_eq_true rfl) (Nat.le_of_ble_eq_true rfl) (fun _ _ => rfl) (Nat.le_of_ble_eq_true rfl) (by decide +kernel) dX0_copyFrom_93 (fun H locs hP hD hS => ?_)
  have hP : va_P g.1 az_cl ((az_cB g ad (va_up (va_up (va_up (va_up (va_up (va_up V 5 (va_cpy (O 5) (V 5) (0 : Int32).toNatClampNeg (0 : Int32).toNatClampNeg (160 : Int32).toNatClampNeg)) 6 (va_cpy (O 6) (V 6) (0 : Int32).toNatClampNeg (0 : Int32).toNatClampNeg (160 : Int32).toNatClampNeg)) 7 (va_cpy (O 7) (V 7) (0 : Int32).toNatClampNeg (0 : Int32).toNatClampNeg (160 : Int32).toNatClampNeg)) 8 (va_cpy (O 8) (V 8) (0 : Int32).toNatClampNeg (0 : Int32).toNatClampNeg (160 : Int32).toNatClampNeg)) 9 (va_cpy (O 9) (V 9) (0 : Int32).toNatClampNeg (0 : Int32).toNatClampNeg (160 : Int32).toNatClampNeg)) 10 (va_cpy (O 10) (V 10) (0 : Int32).toNatClampNeg (0 : Int32).toNatClampNeg (160 : Int32).toNatClampNeg)) ++ az_cB g ad2 O)) _ := hP
  have hD : va_D A ((az_cB g ad (va_up (va_up (va_up (va_up (va_up (va_up V 5 (va_cpy (O 5) (V 5) (0 : Int32).toNatClampNeg (0 : Int32).toNatClampNeg (160 : Int32).toNatClampNeg)) 6 (va_cpy (O 6) (V 6) (0 : Int32).toNatClampNeg (0 : Int32).toNatClampNeg (160 : Int32).toNatClampNeg)) 7 (va_cpy (O 7) (V 7) (0 : Int32).toNatClampNeg (0 : Int32).toNatClampNeg (160 : Int32).toNatClampNeg)) 8 (va_cpy (O 8) (V 8) (0 : Int32).toNatClampNeg (0 : Int32).toNatClampNeg (160 : Int32).toNatClampNeg)) 9 (va_cpy (O 9) (V 9) (0 : Int32).toNatClampNeg (0 : Int32).toNatClampNeg (160 : Int32).toNatClampNeg)) 10 (va_cpy (O 10) (V 10) (0 : Int32).toNatClampNeg (0 : Int32).toNatClampNeg (160 : Int32).toNatClampNeg)) ++ az_cB g ad2 O)) := hD
  have hP : va_P g.1 az_cl ((az_cB g ad (va_up (va_up (va_up (va_up (va_up (va_up V 5 (va_cpy (O 5) (V 5) (0 : Int32).toNatClampNeg (0 : Int32).toNatClampNeg (160 : Int32).toNatClampNeg)) 6 (va_cpy (O 6) (V 6) (0 : Int32).toNatClampNeg (0 : Int32).toNatClampNeg (160 : Int32).toNatClampNeg)) 7 (va_cpy (O 7) (V 7) (0 : Int32).toNatClampNeg (0 : Int32).toNatClampNeg (160 : Int32).toNatClampNeg)) 8 (va_cpy (O 8) (V 8) (0 : Int32).toNatClampNeg (0 : Int32).toNatClampNeg (160 : Int32).toNatClampNeg)) 9 (va_cpy (O 9) (V 9) (0 : Int32).toNatClampNeg (0 : Int32).toNatClampNeg (160 : Int32).toNatClampNeg)) 10 (va_cpy (O 10) (V 10) (0 : Int32).toNatClampNeg (0 : Int32).toNatClampNeg (160 : Int32).toNatClampNeg)) ++ az_cB g ad2 O)) _ := hP
  have hD : va_D A ((az_cB g ad (va_up (va_up (va_up (va_up (va_up (va_up V 5 (va_cpy (O 5) (V 5) (0 : Int32).toNatClampNeg (0 : Int32).toNatClampNeg (160 : Int32).toNatClampNeg)) 6 (va_cpy (O 6) (V 6) (0 : Int32).toNatClampNeg (0 : Int32).toNatClampNeg (160 : Int32).toNatClampNeg)) 7 (va_cpy (O 7) (V 7) (0 : Int32).toNatClampNeg (0 : Int32).toNatClampNeg (160 : Int32).toNatClampNeg)) 8 (va_cpy (O 8) (V 8) (0 : Int32).toNatClampNeg (0 : Int32).toNatClampNeg (160 : Int32).toNatClampNeg)) 9 (va_cpy (O 9) (V 9) (0 : Int32).toNatClampNeg (0 : Int32).toNatClampNeg (160 : Int32).toNatClampNeg)) 10 (va_cpy (O 10) (V 10) (0 : Int32).toNatClampNeg (0 : Int32).toNatClampNeg (160 : Int32).toNatClampNeg)) ++ az_cB g ad2 O)) := hD
  rw [← Option.some.inj h]
  exact az_vret hx hb hr hlocks hK hP hD hS dX0_copyFrom_96

def FX0_isNeeded (V : az_St) (x1 : Int32) : Option (Int32) := if az_in x1 160 = true then if (V 5) x1.toNatClampNeg = (1 : Int32) then (some ((1 : Int32))) else (if (V 5) x1.toNatClampNeg = (2 : Int32) then (some ((1 : Int32))) else (some ((0 : Int32)))) else none
theorem inX0_isNeeded_RX0 : ∀ w ∈ wsX00, w ∈ wsX0_isNeeded := az_inr [2, 3, 4, 5, 6, 7] (by decide +kernel)
set_option maxHeartbeats 4000000 in
set_option maxRecDepth 100000 in
theorem kX0_isNeeded (l : Launch) (g : az_G) (ad : Nat → Nat) (V : az_St) (x1 : Int32) (o : Int32) (h : FX0_isNeeded V x1 = some o) : az_I l yX0_isNeeded wsX0_isNeeded ({ frames := 0, cells := 0, slots := 0, locals := 0 } : Room) [.ref (ad 6), .int x1] g (az_cB g ad V) o (az_cB g ad V) := by
  refine az_body (cc := cX0_isNeeded) (maxL := 2) (ret := (some .boolean)) (Qc := fun A => az_QI g (az_cB g ad V) o A) (by decide +kernel) rfl (Nat.le_of_ble_eq_true rfl) ?_
  intro p e s m args below meth c A hx hb hr hts hown hml hlocks hA hK hP hD hS ls hl
  have hl : lv_has ls 2 [(0, .ref (ad 6)), (1, .int x1)] := hl
  unfold FX0_isNeeded at h
  refine lv_aload_n hx hb dX0_isNeeded_0 rfl (lv_at hl 0 rfl) ?_
  refine va_get (D := g.1) (ci := 0) (v := .ref (ad 7)) (C := RX0) (T := TX0) (N := 6) hx hb hts inX0_isNeeded_RX0 hown hK hP 0 rfl rfl 0 (Nat.le_of_ble_eq_true rfl) (hts _ (List.mem_of_getElem? (i := 1) rfl)) (fun _ h9 => h9) rfl dX0_isNeeded_1 ?_
  refine lv_iload_n hx hb dX0_isNeeded_4 rfl (lv_at hl 1 rfl) ?_
  obtain ⟨i5, h⟩ := az_ite h
  refine va_iald (D := g.1) (f := (V 5)) hx hb hK hP 1 0 rfl rfl (az_vin i5) dX0_isNeeded_5 ?_
  refine lv_iconst (v := (1 : Int32)) hx hb dX0_isNeeded_6 (by decide) ?_
  refine lv_icmp_eq (tgt := 20) hx hb dX0_isNeeded_7 (by decide) (fun c7 => ?_) (fun c7 => ?_)
  · replace h := az_pos c7 h
    refine lv_iconst (v := (1 : Int32)) hx hb dX0_isNeeded_20 (by decide) ?_
    refine lv_goto (tgt := 25) hx hb dX0_isNeeded_21 (by decide) ?_
    have hP : va_P g.1 az_cl (az_cB g ad V) _ := hP
    have hD : va_D A (az_cB g ad V) := hD
    rw [← Option.some.inj h]
    exact az_zret hx hb hr hlocks rfl hK hP hD hS dX0_isNeeded_25
  · replace h := az_neg c7 h
    refine lv_aload_n hx hb dX0_isNeeded_10 rfl (lv_at hl 0 rfl) ?_
    refine va_get (D := g.1) (ci := 0) (v := .ref (ad 7)) (C := RX0) (T := TX0) (N := 6) hx hb hts inX0_isNeeded_RX0 hown hK hP 0 rfl rfl 0 (Nat.le_of_ble_eq_true rfl) (hts _ (List.mem_of_getElem? (i := 1) rfl)) (fun _ h9 => h9) rfl dX0_isNeeded_11 ?_
    refine lv_iload_n hx hb dX0_isNeeded_14 rfl (lv_at hl 1 rfl) ?_
    refine va_iald (D := g.1) (f := (V 5)) hx hb hK hP 1 0 rfl rfl (az_vin i5) dX0_isNeeded_15 ?_
    refine lv_iconst (v := (2 : Int32)) hx hb dX0_isNeeded_16 (by decide) ?_
    refine lv_icmp_ne (tgt := 24) hx hb dX0_isNeeded_17 (by decide) (fun c17 => ?_) (fun c17 => ?_)
    · replace h := az_neg c17 h
      refine lv_iconst (v := (0 : Int32)) hx hb dX0_isNeeded_24 (by decide) ?_
      have hP : va_P g.1 az_cl (az_cB g ad V) _ := hP
      have hD : va_D A (az_cB g ad V) := hD
      rw [← Option.some.inj h]
      exact az_zret hx hb hr hlocks rfl hK hP hD hS dX0_isNeeded_25
    · replace h := az_pos c17 h
      refine lv_iconst (v := (1 : Int32)) hx hb dX0_isNeeded_20 (by decide) ?_
      refine lv_goto (tgt := 25) hx hb dX0_isNeeded_21 (by decide) ?_
      have hP : va_P g.1 az_cl (az_cB g ad V) _ := hP
      have hD : va_D A (az_cB g ad V) := hD
      rw [← Option.some.inj h]
      exact az_zret hx hb hr hlocks rfl hK hP hD hS dX0_isNeeded_25

def FX0_inState_L6 : Nat → az_St → Int32 → Int32 → Int32 → Int32 → Int32 → Option (Int32)
  | 0, _, _, _, _, _, _ => none
  | n + 1, V, x1, x2, x3, y4, y5 => if x2 ≤ y5 then (some (y4)) else (if az_in y5 160 = true then if (V 5) y5.toNatClampNeg = x3 then (FX0_inState_L6 n V x1 x2 x3 (y4 + (1 : Int32)) (y5 + (1 : Int32))) else (FX0_inState_L6 n V x1 x2 x3 y4 (y5 + (1 : Int32))) else none)
theorem FX0_inState_L6_s (n : Nat) (V : az_St) (x1 : Int32) (x2 : Int32) (x3 : Int32) (y4 : Int32) (y5 : Int32) : FX0_inState_L6 (n + 1) V x1 x2 x3 y4 y5 = (if x2 ≤ y5 then (some (y4)) else (if az_in y5 160 = true then if (V 5) y5.toNatClampNeg = x3 then (FX0_inState_L6 n V x1 x2 x3 (y4 + (1 : Int32)) (y5 + (1 : Int32))) else (FX0_inState_L6 n V x1 x2 x3 y4 (y5 + (1 : Int32))) else none)) := rfl
def FX0_inState (V : az_St) (x1 : Int32) (x2 : Int32) (x3 : Int32) : Option (Int32) := FX0_inState_L6 az_fuel V x1 x2 x3 (0 : Int32) x1
theorem inX0_inState_RX0 : ∀ w ∈ wsX00, w ∈ wsX0_inState := az_inr [2, 3, 4, 5, 6, 7] (by decide +kernel)
set_option maxHeartbeats 4000000 in
set_option maxRecDepth 100000 in
theorem kX0_inState (l : Launch) (g : az_G) (ad : Nat → Nat) (V : az_St) (x1 : Int32) (x2 : Int32) (x3 : Int32) (o : Int32) (h : FX0_inState V x1 x2 x3 = some o) : az_I l yX0_inState wsX0_inState ({ frames := 0, cells := 0, slots := 0, locals := 0 } : Room) [.ref (ad 6), .int x1, .int x2, .int x3] g (az_cB g ad V) o (az_cB g ad V) := by
  refine az_body (cc := cX0_inState) (maxL := 6) (ret := (some .int)) (Qc := fun A => az_QI g (az_cB g ad V) o A) (by decide +kernel) rfl (Nat.le_of_ble_eq_true rfl) ?_
  intro p e s m args below meth c A hx hb hr hts hown hml hlocks hA hK hP hD hS ls hl
  have hl : lv_has ls 6 [(0, .ref (ad 6)), (1, .int x1), (2, .int x2), (3, .int x3)] := hl
  unfold FX0_inState at h
  have hL6 : ∀ (n : Nat) (y4 : Int32) (y5 : Int32) (H : Heap) (locs : List Loc) (ls : Array Slot), FX0_inState_L6 n V x1 x2 x3 y4 y5 = some o → va_P g.1 az_cl (az_cB g ad V) H → va_D A (az_cB g ad V) → va_S A s.heap H locs → lv_has ls 6 [(0, .ref (ad 6)), (2, .int x2), (3, .int x3), (4, .int y4), (5, .int y5)] → W p l e ({ frames := 0, cells := 0, slots := 0, locals := 0 } : Room) s m args below meth c H locs 0 0 (MQ below (az_QI g (az_cB g ad V) o A) args s 0 0 A) (F0 m 6 ls []) := by
    intro n
    induction n with
    | zero => intro y4 y5 H locs ls h; exact az_non h
    | succ n ih =>
      intro y4 y5 H locs ls h hP hD hS hl
      rw [FX0_inState_L6_s] at h
      refine lv_iload hx hb dX0_inState_6 (lv_at hl 4 rfl) ?_
      refine lv_iload_n hx hb dX0_inState_8 rfl (lv_at hl 1 rfl) ?_
      refine lv_icmp_ge (tgt := 32) hx hb dX0_inState_9 (by decide) (fun c9 => ?_) (fun c9 => ?_)
      · replace h := az_pos c9 h
        refine lv_iload hx hb dX0_inState_32 (lv_at hl 3 rfl) ?_
        have hP : va_P g.1 az_cl (az_cB g ad V) _ := hP
        have hD : va_D A (az_cB g ad V) := hD
        rw [← Option.some.inj h]
        exact az_iret hx hb hr hlocks hK hP hD hS dX0_inState_34
      · replace h := az_neg c9 h
        refine lv_aload_n hx hb dX0_inState_12 rfl (lv_at hl 0 rfl) ?_
        refine va_get (D := g.1) (ci := 0) (v := .ref (ad 7)) (C := RX0) (T := TX0) (N := 6) hx hb hts inX0_inState_RX0 hown hK hP 0 rfl rfl 0 (Nat.le_of_ble_eq_true rfl) (hts _ (List.mem_of_getElem? (i := 1) rfl)) (fun _ h9 => h9) rfl dX0_inState_13 ?_
        refine lv_iload hx hb dX0_inState_16 (lv_at hl 4 rfl) ?_
        obtain ⟨i18, h⟩ := az_ite h
        refine va_iald (D := g.1) (f := (V 5)) hx hb hK hP 1 0 rfl rfl (az_vin i18) dX0_inState_18 ?_
        refine lv_iload_n hx hb dX0_inState_19 rfl (lv_at hl 2 rfl) ?_
        refine lv_icmp_ne (tgt := 26) hx hb dX0_inState_20 (by decide) (fun c20 => ?_) (fun c20 => ?_)
        · replace h := az_neg c20 h
          refine lv_iinc (v := y5 + (1 : Int32)) (lv' := [(5, .int (y5 + (1 : Int32))), (0, .ref (ad 6)), (2, .int x2), (3, .int x3), (4, .int y4)]) hx hb dX0_inState_26 hl (k := 4) rfl (rfl) (by decide) rfl (fun ls hl => ?_)
          refine lv_goto (tgt := 6) hx hb dX0_inState_29 (by decide) ?_
          have hP : va_P g.1 az_cl (az_cB g ad V) _ := hP
          have hD : va_D A (az_cB g ad V) := hD
          exact ih y4 (y5 + (1 : Int32)) _ _ ls h hP hD hS (lv_sub hl [1, 2, 3, 4, 0] rfl)
        · replace h := az_pos c20 h
          refine lv_iinc (v := y4 + (1 : Int32)) (lv' := [(4, .int (y4 + (1 : Int32))), (0, .ref (ad 6)), (2, .int x2), (3, .int x3), (5, .int y5)]) hx hb dX0_inState_23 hl (k := 3) rfl (rfl) (by decide) rfl (fun ls hl => ?_)
          refine lv_iinc (v := y5 + (1 : Int32)) (lv' := [(5, .int (y5 + (1 : Int32))), (4, .int (y4 + (1 : Int32))), (0, .ref (ad 6)), (2, .int x2), (3, .int x3)]) hx hb dX0_inState_26 hl (k := 4) rfl (rfl) (by decide) rfl (fun ls hl => ?_)
          refine lv_goto (tgt := 6) hx hb dX0_inState_29 (by decide) ?_
          have hP : va_P g.1 az_cl (az_cB g ad V) _ := hP
          have hD : va_D A (az_cB g ad V) := hD
          exact ih (y4 + (1 : Int32)) (y5 + (1 : Int32)) _ _ ls h hP hD hS (lv_sub hl [2, 3, 4, 1, 0] rfl)
  refine lv_iconst (v := (0 : Int32)) hx hb dX0_inState_0 (by decide) ?_
  refine lv_istore (lv' := [(4, .int (0 : Int32)), (0, .ref (ad 6)), (1, .int x1), (2, .int x2), (3, .int x3)]) hx hb dX0_inState_1 hl (by decide) rfl (fun ls hl => ?_)
  refine lv_iload_n hx hb dX0_inState_3 rfl (lv_at hl 2 rfl) ?_
  refine lv_istore (lv' := [(5, .int x1), (4, .int (0 : Int32)), (0, .ref (ad 6)), (1, .int x1), (2, .int x2), (3, .int x3)]) hx hb dX0_inState_4 hl (by decide) rfl (fun ls hl => ?_)
  have hP : va_P g.1 az_cl (az_cB g ad V) _ := hP
  have hD : va_D A (az_cB g ad V) := hD
  exact hL6 az_fuel (0 : Int32) x1 _ _ ls h hP hD hS (lv_sub hl [2, 4, 5, 1, 0] rfl)

def FX0_latestTick_L5 : Nat → az_St → Int32 → Int32 → Int32 → Int32 → Option (Int32)
  | 0, _, _, _, _, _ => none
  | n + 1, V, x1, x2, y3, y4 => if x2 ≤ y4 then (some (y3)) else (if az_in y4 160 = true then az_lt ((if y3 < (V 8) y4.toNatClampNeg then (V 8) y4.toNatClampNeg else y3)) (fun z22 => FX0_latestTick_L5 n V x1 x2 z22 (y4 + (1 : Int32))) else none)
theorem FX0_latestTick_L5_s (n : Nat) (V : az_St) (x1 : Int32) (x2 : Int32) (y3 : Int32) (y4 : Int32) : FX0_latestTick_L5 (n + 1) V x1 x2 y3 y4 = (if x2 ≤ y4 then (some (y3)) else (if az_in y4 160 = true then az_lt ((if y3 < (V 8) y4.toNatClampNeg then (V 8) y4.toNatClampNeg else y3)) (fun z22 => FX0_latestTick_L5 n V x1 x2 z22 (y4 + (1 : Int32))) else none)) := rfl
def FX0_latestTick (V : az_St) (x1 : Int32) (x2 : Int32) : Option (Int32) := FX0_latestTick_L5 az_fuel V x1 x2 (-1 : Int32) x1
theorem inX0_latestTick_RX0 : ∀ w ∈ wsX00, w ∈ wsX0_latestTick := az_inr [6, 7, 8, 9, 10, 11] (by decide +kernel)
set_option maxHeartbeats 4000000 in
set_option maxRecDepth 100000 in
theorem kX0_latestTick (l : Launch) (g : az_G) (ad : Nat → Nat) (V : az_St) (x1 : Int32) (x2 : Int32) (o : Int32) (h : FX0_latestTick V x1 x2 = some o) : az_I l yX0_latestTick wsX0_latestTick ({ frames := 1, cells := 0, slots := 0, locals := 40 } : Room) [.ref (ad 6), .int x1, .int x2] g (az_cB g ad V) o (az_cB g ad V) := by
  refine az_body (cc := cX0_latestTick) (maxL := 5) (ret := (some .int)) (Qc := fun A => az_QI g (az_cB g ad V) o A) (by decide +kernel) rfl (Nat.le_of_ble_eq_true rfl) ?_
  intro p e s m args below meth c A hx hb hr hts hown hml hlocks hA hK hP hD hS ls hl
  have hl : lv_has ls 5 [(0, .ref (ad 6)), (1, .int x1), (2, .int x2)] := hl
  unfold FX0_latestTick at h
  have hL5 : ∀ (n : Nat) (y3 : Int32) (y4 : Int32) (H : Heap) (locs : List Loc) (ls : Array Slot), FX0_latestTick_L5 n V x1 x2 y3 y4 = some o → va_P g.1 az_cl (az_cB g ad V) H → va_D A (az_cB g ad V) → va_S A s.heap H locs → lv_has ls 5 [(0, .ref (ad 6)), (2, .int x2), (3, .int y3), (4, .int y4)] → W p l e ({ frames := 1, cells := 0, slots := 0, locals := 40 } : Room) s m args below meth c H locs 0 0 (MQ below (az_QI g (az_cB g ad V) o A) args s 0 0 A) (F0 m 5 ls []) := by
    intro n
    induction n with
    | zero => intro y3 y4 H locs ls h; exact az_non h
    | succ n ih =>
      intro y3 y4 H locs ls h hP hD hS hl
      rw [FX0_latestTick_L5_s] at h
      refine lv_iload hx hb dX0_latestTick_5 (lv_at hl 3 rfl) ?_
      refine lv_iload_n hx hb dX0_latestTick_7 rfl (lv_at hl 1 rfl) ?_
      refine lv_icmp_ge (tgt := 29) hx hb dX0_latestTick_8 (by decide) (fun c8 => ?_) (fun c8 => ?_)
      · replace h := az_pos c8 h
        refine lv_iload_n hx hb dX0_latestTick_29 rfl (lv_at hl 2 rfl) ?_
        have hP : va_P g.1 az_cl (az_cB g ad V) _ := hP
        have hD : va_D A (az_cB g ad V) := hD
        rw [← Option.some.inj h]
        exact az_iret hx hb hr hlocks hK hP hD hS dX0_latestTick_30
      · replace h := az_neg c8 h
        refine lv_iload_n hx hb dX0_latestTick_11 rfl (lv_at hl 2 rfl) ?_
        refine lv_aload_n hx hb dX0_latestTick_12 rfl (lv_at hl 0 rfl) ?_
        refine va_get (D := g.1) (ci := 0) (v := .ref (ad 10)) (C := RX0) (T := TX0) (N := 6) hx hb hts inX0_latestTick_RX0 hown hK hP 0 rfl rfl 3 (Nat.le_of_ble_eq_true rfl) (hts _ (List.mem_of_getElem? (i := 1) rfl)) (fun _ h9 => h9) rfl dX0_latestTick_13 ?_
        refine lv_iload hx hb dX0_latestTick_16 (lv_at hl 3 rfl) ?_
        obtain ⟨i18, h⟩ := az_ite h
        refine va_iald (D := g.1) (f := (V 8)) hx hb hK hP 4 0 rfl rfl (az_vin i18) dX0_latestTick_18 ?_
        refine va_mmax hx hb (hml.trans hl.1.symm) hown (hts _ (List.mem_of_getElem? (i := 2) rfl)) (hts _ (List.mem_of_getElem? (i := 3) rfl)) (hts _ (List.mem_of_getElem? (i := 4) rfl)) (hts _ (List.mem_of_getElem? (i := 5) rfl)) (Nat.le_of_ble_eq_true rfl) (Nat.le_of_ble_eq_true rfl) (Nat.zero_le _) (Nat.zero_le _) dX0_latestTick_19 ?_
        refine lv_topi (x := (if y3 < (V 8) y4.toNatClampNeg then (V 8) y4.toNatClampNeg else y3)) (fun z22 e22 => ?_)
        replace h := az_let e22 h
        refine lv_istore_n (lv' := [(3, .int z22), (0, .ref (ad 6)), (2, .int x2), (4, .int y4)]) hx hb dX0_latestTick_22 rfl hl (by decide) rfl (fun ls hl => ?_)
        refine lv_iinc (v := y4 + (1 : Int32)) (lv' := [(4, .int (y4 + (1 : Int32))), (3, .int z22), (0, .ref (ad 6)), (2, .int x2)]) hx hb dX0_latestTick_23 hl (k := 3) rfl (rfl) (by decide) rfl (fun ls hl => ?_)
        refine lv_goto (tgt := 5) hx hb dX0_latestTick_26 (by decide) ?_
        have hP : va_P g.1 az_cl (az_cB g ad V) _ := hP
        have hD : va_D A (az_cB g ad V) := hD
        exact ih z22 (y4 + (1 : Int32)) _ _ ls h hP hD hS (lv_sub hl [2, 3, 1, 0] rfl)
  refine lv_iconst (v := (-1 : Int32)) hx hb dX0_latestTick_0 (by decide) ?_
  refine lv_istore_n (lv' := [(3, .int (-1 : Int32)), (0, .ref (ad 6)), (1, .int x1), (2, .int x2)]) hx hb dX0_latestTick_1 rfl hl (by decide) rfl (fun ls hl => ?_)
  refine lv_iload_n hx hb dX0_latestTick_2 rfl (lv_at hl 2 rfl) ?_
  refine lv_istore (lv' := [(4, .int x1), (3, .int (-1 : Int32)), (0, .ref (ad 6)), (1, .int x1), (2, .int x2)]) hx hb dX0_latestTick_3 hl (by decide) rfl (fun ls hl => ?_)
  have hP : va_P g.1 az_cl (az_cB g ad V) _ := hP
  have hD : va_D A (az_cB g ad V) := hD
  exact hL5 az_fuel (-1 : Int32) x1 _ _ ls h hP hD hS (lv_sub hl [2, 4, 1, 0] rfl)

def FX0_isVersion (V : az_St) (x1 : Int32) (x2 : Int32) : Option (Int32) := if az_in x1 160 = true then if (V 6) x1.toNatClampNeg = x2 then ((FX0_isNeeded V x1).bind (fun o12 => if o12 = (0 : Int32) then (if (V 5) x1.toNatClampNeg = (3 : Int32) then (some ((1 : Int32))) else (some ((0 : Int32)))) else (some ((1 : Int32))))) else (some ((0 : Int32))) else none
theorem inX0_isVersion_RX0 : ∀ w ∈ wsX00, w ∈ wsX0_isVersion := az_inr [8, 9, 10, 11, 12, 13] (by decide +kernel)
set_option maxHeartbeats 4000000 in
set_option maxRecDepth 100000 in
theorem kX0_isVersion (l : Launch) (g : az_G) (ad : Nat → Nat) (V : az_St) (x1 : Int32) (x2 : Int32) (o : Int32) (h : FX0_isVersion V x1 x2 = some o) : az_I l yX0_isVersion wsX0_isVersion ({ frames := 1, cells := 0, slots := 0, locals := 21 } : Room) [.ref (ad 6), .int x1, .int x2] g (az_cB g ad V) o (az_cB g ad V) := by
  refine az_body (cc := cX0_isVersion) (maxL := 3) (ret := (some .boolean)) (Qc := fun A => az_QI g (az_cB g ad V) o A) (by decide +kernel) rfl (Nat.le_of_ble_eq_true rfl) ?_
  intro p e s m args below meth c A hx hb hr hts hown hml hlocks hA hK hP hD hS ls hl
  have hl : lv_has ls 3 [(0, .ref (ad 6)), (1, .int x1), (2, .int x2)] := hl
  unfold FX0_isVersion at h
  refine lv_aload_n hx hb dX0_isVersion_0 rfl (lv_at hl 0 rfl) ?_
  refine va_get (D := g.1) (ci := 0) (v := .ref (ad 8)) (C := RX0) (T := TX0) (N := 6) hx hb hts inX0_isVersion_RX0 hown hK hP 0 rfl rfl 1 (Nat.le_of_ble_eq_true rfl) (hts _ (List.mem_of_getElem? (i := 1) rfl)) (fun _ h9 => h9) rfl dX0_isVersion_1 ?_
  refine lv_iload_n hx hb dX0_isVersion_4 rfl (lv_at hl 1 rfl) ?_
  obtain ⟨i5, h⟩ := az_ite h
  refine va_iald (D := g.1) (f := (V 6)) hx hb hK hP 2 0 rfl rfl (az_vin i5) dX0_isVersion_5 ?_
  refine lv_iload_n hx hb dX0_isVersion_6 rfl (lv_at hl 2 rfl) ?_
  refine lv_icmp_ne (tgt := 32) hx hb dX0_isVersion_7 (by decide) (fun c7 => ?_) (fun c7 => ?_)
  · replace h := az_neg c7 h
    refine lv_iconst (v := (0 : Int32)) hx hb dX0_isVersion_32 (by decide) ?_
    have hP : va_P g.1 az_cl (az_cB g ad V) _ := hP
    have hD : va_D A (az_cB g ad V) := hD
    rw [← Option.some.inj h]
    exact az_zret hx hb hr hlocks rfl hK hP hD hS dX0_isVersion_33
  · replace h := az_pos c7 h
    refine lv_aload_n hx hb dX0_isVersion_10 rfl (lv_at hl 0 rfl) ?_
    refine lv_iload_n hx hb dX0_isVersion_11 rfl (lv_at hl 1 rfl) ?_
    obtain ⟨o12, hc12, h⟩ := az_bnd h
    refine az_callVi (w2 := az_cB g ad V) (As := [.int x1]) (rest := []) ⟨hx, hb, hml, hown, hts⟩ hl.1 (kX0_isNeeded l g ad V x1 o12 hc12) (cwV 1 hts gX0_isVersion_X0_isNeeded rfl rfl rfl (by decide +kernel) ⟨Nat.le_of_ble_eq_true rfl, Nat.le_of_ble_eq_true rfl⟩) rfl hK hP hD hS hA [0, 1, 2, 3, 4, 5, 6] [] [0, 1, 2, 3, 4, 5, 6] rfl rfl rfl rfl rfl (by decide) rfl rfl rfl 0 rfl rfl rfl (Nat.le_of_ble_eq_true rfl) dX0_isVersion_12 ⟨Nat.zero_le _, Nat.zero_le _⟩ rfl (fun H locs hP hD hS => ?_)
    refine lv_if_ne (tgt := 28) hx hb dX0_isVersion_15 (by decide) (fun c15 => ?_) (fun c15 => ?_)
    · replace h := az_neg c15 h
      refine lv_iconst (v := (1 : Int32)) hx hb dX0_isVersion_28 (by decide) ?_
      refine lv_goto (tgt := 33) hx hb dX0_isVersion_29 (by decide) ?_
      have hP : va_P g.1 az_cl (az_cB g ad V) _ := hP
      have hD : va_D A (az_cB g ad V) := hD
      rw [← Option.some.inj h]
      exact az_zret hx hb hr hlocks rfl hK hP hD hS dX0_isVersion_33
    · replace h := az_pos c15 h
      refine lv_aload_n hx hb dX0_isVersion_18 rfl (lv_at hl 0 rfl) ?_
      refine va_get (D := g.1) (ci := 0) (v := .ref (ad 7)) (C := RX0) (T := TX0) (N := 6) hx hb hts inX0_isVersion_RX0 hown hK hP 0 rfl rfl 0 (Nat.le_of_ble_eq_true rfl) (hts _ (List.mem_of_getElem? (i := 2) rfl)) (fun _ h9 => h9) rfl dX0_isVersion_19 ?_
      refine lv_iload_n hx hb dX0_isVersion_22 rfl (lv_at hl 1 rfl) ?_
      refine va_iald (D := g.1) (f := (V 5)) hx hb hK hP 1 0 rfl rfl (az_vin i5) dX0_isVersion_23 ?_
      refine lv_iconst (v := (3 : Int32)) hx hb dX0_isVersion_24 (by decide) ?_
      refine lv_icmp_ne (tgt := 32) hx hb dX0_isVersion_25 (by decide) (fun c25 => ?_) (fun c25 => ?_)
      · replace h := az_neg c25 h
        refine lv_iconst (v := (0 : Int32)) hx hb dX0_isVersion_32 (by decide) ?_
        have hP : va_P g.1 az_cl (az_cB g ad V) _ := hP
        have hD : va_D A (az_cB g ad V) := hD
        rw [← Option.some.inj h]
        exact az_zret hx hb hr hlocks rfl hK hP hD hS dX0_isVersion_33
      · replace h := az_pos c25 h
        refine lv_iconst (v := (1 : Int32)) hx hb dX0_isVersion_28 (by decide) ?_
        refine lv_goto (tgt := 33) hx hb dX0_isVersion_29 (by decide) ?_
        have hP : va_P g.1 az_cl (az_cB g ad V) _ := hP
        have hD : va_D A (az_cB g ad V) := hD
        rw [← Option.some.inj h]
        exact az_zret hx hb hr hlocks rfl hK hP hD hS dX0_isVersion_33

def FX0_versionsOf_L4 : Nat → az_St → Int32 → Int32 → Int32 → Option (Int32)
  | 0, _, _, _, _ => none
  | n + 1, V, x1, y2, y3 => if (160 : Int32) ≤ y3 then (some (y2)) else ((FX0_isVersion V y3 x1).bind (fun o14 => if o14 = (0 : Int32) then (FX0_versionsOf_L4 n V x1 y2 (y3 + (1 : Int32))) else (FX0_versionsOf_L4 n V x1 (y2 + (1 : Int32)) (y3 + (1 : Int32)))))
theorem FX0_versionsOf_L4_s (n : Nat) (V : az_St) (x1 : Int32) (y2 : Int32) (y3 : Int32) : FX0_versionsOf_L4 (n + 1) V x1 y2 y3 = (if (160 : Int32) ≤ y3 then (some (y2)) else ((FX0_isVersion V y3 x1).bind (fun o14 => if o14 = (0 : Int32) then (FX0_versionsOf_L4 n V x1 y2 (y3 + (1 : Int32))) else (FX0_versionsOf_L4 n V x1 (y2 + (1 : Int32)) (y3 + (1 : Int32)))))) := rfl
def FX0_versionsOf (V : az_St) (x1 : Int32) : Option (Int32) := FX0_versionsOf_L4 az_fuel V x1 (0 : Int32) (0 : Int32)
set_option maxHeartbeats 4000000 in
set_option maxRecDepth 100000 in
theorem kX0_versionsOf (l : Launch) (g : az_G) (ad : Nat → Nat) (V : az_St) (x1 : Int32) (o : Int32) (h : FX0_versionsOf V x1 = some o) : az_I l yX0_versionsOf wsX0_versionsOf ({ frames := 2, cells := 0, slots := 0, locals := 43 } : Room) [.ref (ad 6), .int x1] g (az_cB g ad V) o (az_cB g ad V) := by
  refine az_body (cc := cX0_versionsOf) (maxL := 4) (ret := (some .int)) (Qc := fun A => az_QI g (az_cB g ad V) o A) (by decide +kernel) rfl (Nat.le_of_ble_eq_true rfl) ?_
  intro p e s m args below meth c A hx hb hr hts hown hml hlocks hA hK hP hD hS ls hl
  have hl : lv_has ls 4 [(0, .ref (ad 6)), (1, .int x1)] := hl
  unfold FX0_versionsOf at h
  have hL4 : ∀ (n : Nat) (y2 : Int32) (y3 : Int32) (H : Heap) (locs : List Loc) (ls : Array Slot), FX0_versionsOf_L4 n V x1 y2 y3 = some o → va_P g.1 az_cl (az_cB g ad V) H → va_D A (az_cB g ad V) → va_S A s.heap H locs → lv_has ls 4 [(0, .ref (ad 6)), (1, .int x1), (2, .int y2), (3, .int y3)] → W p l e ({ frames := 2, cells := 0, slots := 0, locals := 43 } : Room) s m args below meth c H locs 0 0 (MQ below (az_QI g (az_cB g ad V) o A) args s 0 0 A) (F0 m 4 ls []) := by
    intro n
    induction n with
    | zero => intro y2 y3 H locs ls h; exact az_non h
    | succ n ih =>
      intro y2 y3 H locs ls h hP hD hS hl
      rw [FX0_versionsOf_L4_s] at h
      refine lv_iload_n hx hb dX0_versionsOf_4 rfl (lv_at hl 3 rfl) ?_
      refine lv_sipush (v := (160 : Int32)) hx hb dX0_versionsOf_5 (by decide) ?_
      refine lv_icmp_ge (tgt := 29) hx hb dX0_versionsOf_8 (by decide) (fun c8 => ?_) (fun c8 => ?_)
      · replace h := az_pos c8 h
        refine lv_iload_n hx hb dX0_versionsOf_29 rfl (lv_at hl 2 rfl) ?_
        have hP : va_P g.1 az_cl (az_cB g ad V) _ := hP
        have hD : va_D A (az_cB g ad V) := hD
        rw [← Option.some.inj h]
        exact az_iret hx hb hr hlocks hK hP hD hS dX0_versionsOf_30
      · replace h := az_neg c8 h
        refine lv_aload_n hx hb dX0_versionsOf_11 rfl (lv_at hl 0 rfl) ?_
        refine lv_iload_n hx hb dX0_versionsOf_12 rfl (lv_at hl 3 rfl) ?_
        refine lv_iload_n hx hb dX0_versionsOf_13 rfl (lv_at hl 1 rfl) ?_
        obtain ⟨o14, hc14, h⟩ := az_bnd h
        refine az_callVi (w2 := az_cB g ad V) (As := [.int y3, .int x1]) (rest := []) ⟨hx, hb, hml, hown, hts⟩ hl.1 (kX0_isVersion l g ad V y3 x1 o14 hc14) (cwV 2 hts gX0_versionsOf_X0_isVersion rfl rfl rfl (by decide +kernel) ⟨Nat.le_of_ble_eq_true rfl, Nat.le_of_ble_eq_true rfl⟩) rfl hK hP hD hS hA [0, 1, 2, 3, 4, 5, 6] [] [0, 1, 2, 3, 4, 5, 6] rfl rfl rfl rfl rfl (by decide) rfl rfl rfl 0 rfl rfl rfl (Nat.le_of_ble_eq_true rfl) dX0_versionsOf_14 ⟨Nat.zero_le _, Nat.zero_le _⟩ rfl (fun H locs hP hD hS => ?_)
        refine lv_if_eq (tgt := 23) hx hb dX0_versionsOf_17 (by decide) (fun c17 => ?_) (fun c17 => ?_)
        · replace h := az_pos c17 h
          refine lv_iinc (v := y3 + (1 : Int32)) (lv' := [(3, .int (y3 + (1 : Int32))), (0, .ref (ad 6)), (1, .int x1), (2, .int y2)]) hx hb dX0_versionsOf_23 hl (k := 3) rfl (rfl) (by decide) rfl (fun ls hl => ?_)
          refine lv_goto (tgt := 4) hx hb dX0_versionsOf_26 (by decide) ?_
          have hP : va_P g.1 az_cl (az_cB g ad V) _ := hP
          have hD : va_D A (az_cB g ad V) := hD
          exact ih y2 (y3 + (1 : Int32)) _ _ ls h hP hD hS (lv_sub hl [1, 2, 3, 0] rfl)
        · replace h := az_neg c17 h
          refine lv_iinc (v := y2 + (1 : Int32)) (lv' := [(2, .int (y2 + (1 : Int32))), (0, .ref (ad 6)), (1, .int x1), (3, .int y3)]) hx hb dX0_versionsOf_20 hl (k := 2) rfl (rfl) (by decide) rfl (fun ls hl => ?_)
          refine lv_iinc (v := y3 + (1 : Int32)) (lv' := [(3, .int (y3 + (1 : Int32))), (2, .int (y2 + (1 : Int32))), (0, .ref (ad 6)), (1, .int x1)]) hx hb dX0_versionsOf_23 hl (k := 3) rfl (rfl) (by decide) rfl (fun ls hl => ?_)
          refine lv_goto (tgt := 4) hx hb dX0_versionsOf_26 (by decide) ?_
          have hP : va_P g.1 az_cl (az_cB g ad V) _ := hP
          have hD : va_D A (az_cB g ad V) := hD
          exact ih (y2 + (1 : Int32)) (y3 + (1 : Int32)) _ _ ls h hP hD hS (lv_sub hl [2, 3, 1, 0] rfl)
  refine lv_iconst (v := (0 : Int32)) hx hb dX0_versionsOf_0 (by decide) ?_
  refine lv_istore_n (lv' := [(2, .int (0 : Int32)), (0, .ref (ad 6)), (1, .int x1)]) hx hb dX0_versionsOf_1 rfl hl (by decide) rfl (fun ls hl => ?_)
  refine lv_iconst (v := (0 : Int32)) hx hb dX0_versionsOf_2 (by decide) ?_
  refine lv_istore_n (lv' := [(3, .int (0 : Int32)), (2, .int (0 : Int32)), (0, .ref (ad 6)), (1, .int x1)]) hx hb dX0_versionsOf_3 rfl hl (by decide) rfl (fun ls hl => ?_)
  have hP : va_P g.1 az_cl (az_cB g ad V) _ := hP
  have hD : va_D A (az_cB g ad V) := hD
  exact hL4 az_fuel (0 : Int32) (0 : Int32) _ _ ls h hP hD hS (lv_sub hl [2, 3, 1, 0] rfl)

def FX0_versionAt_L5 : Nat → az_St → Int32 → Int32 → Int32 → Int32 → Option (Int32)
  | 0, _, _, _, _, _ => none
  | n + 1, V, x1, x2, y3, y4 => if (160 : Int32) ≤ y4 then (some ((-1 : Int32))) else ((FX0_isVersion V y4 x1).bind (fun o17 => if o17 = (0 : Int32) then (FX0_versionAt_L5 n V x1 x2 y3 (y4 + (1 : Int32))) else (if y3 = x2 then (some (y4)) else (FX0_versionAt_L5 n V x1 x2 (y3 + (1 : Int32)) (y4 + (1 : Int32))))))
theorem FX0_versionAt_L5_s (n : Nat) (V : az_St) (x1 : Int32) (x2 : Int32) (y3 : Int32) (y4 : Int32) : FX0_versionAt_L5 (n + 1) V x1 x2 y3 y4 = (if (160 : Int32) ≤ y4 then (some ((-1 : Int32))) else ((FX0_isVersion V y4 x1).bind (fun o17 => if o17 = (0 : Int32) then (FX0_versionAt_L5 n V x1 x2 y3 (y4 + (1 : Int32))) else (if y3 = x2 then (some (y4)) else (FX0_versionAt_L5 n V x1 x2 (y3 + (1 : Int32)) (y4 + (1 : Int32))))))) := rfl
def FX0_versionAt (V : az_St) (x1 : Int32) (x2 : Int32) : Option (Int32) := FX0_versionAt_L5 az_fuel V x1 x2 (0 : Int32) (0 : Int32)
set_option maxHeartbeats 4000000 in
set_option maxRecDepth 100000 in
theorem kX0_versionAt (l : Launch) (g : az_G) (ad : Nat → Nat) (V : az_St) (x1 : Int32) (x2 : Int32) (o : Int32) (h : FX0_versionAt V x1 x2 = some o) : az_I l yX0_versionAt wsX0_versionAt ({ frames := 2, cells := 0, slots := 0, locals := 43 } : Room) [.ref (ad 6), .int x1, .int x2] g (az_cB g ad V) o (az_cB g ad V) := by
  refine az_body (cc := cX0_versionAt) (maxL := 5) (ret := (some .int)) (Qc := fun A => az_QI g (az_cB g ad V) o A) (by decide +kernel) rfl (Nat.le_of_ble_eq_true rfl) ?_
  intro p e s m args below meth c A hx hb hr hts hown hml hlocks hA hK hP hD hS ls hl
  have hl : lv_has ls 5 [(0, .ref (ad 6)), (1, .int x1), (2, .int x2)] := hl
  unfold FX0_versionAt at h
  have hL5 : ∀ (n : Nat) (y3 : Int32) (y4 : Int32) (H : Heap) (locs : List Loc) (ls : Array Slot), FX0_versionAt_L5 n V x1 x2 y3 y4 = some o → va_P g.1 az_cl (az_cB g ad V) H → va_D A (az_cB g ad V) → va_S A s.heap H locs → lv_has ls 5 [(0, .ref (ad 6)), (1, .int x1), (2, .int x2), (3, .int y3), (4, .int y4)] → W p l e ({ frames := 2, cells := 0, slots := 0, locals := 43 } : Room) s m args below meth c H locs 0 0 (MQ below (az_QI g (az_cB g ad V) o A) args s 0 0 A) (F0 m 5 ls []) := by
    intro n
    induction n with
    | zero => intro y3 y4 H locs ls h; exact az_non h
    | succ n ih =>
      intro y3 y4 H locs ls h hP hD hS hl
      rw [FX0_versionAt_L5_s] at h
      refine lv_iload hx hb dX0_versionAt_5 (lv_at hl 4 rfl) ?_
      refine lv_sipush (v := (160 : Int32)) hx hb dX0_versionAt_7 (by decide) ?_
      refine lv_icmp_ge (tgt := 40) hx hb dX0_versionAt_10 (by decide) (fun c10 => ?_) (fun c10 => ?_)
      · replace h := az_pos c10 h
        refine lv_iconst (v := (-1 : Int32)) hx hb dX0_versionAt_40 (by decide) ?_
        have hP : va_P g.1 az_cl (az_cB g ad V) _ := hP
        have hD : va_D A (az_cB g ad V) := hD
        rw [← Option.some.inj h]
        exact az_iret hx hb hr hlocks hK hP hD hS dX0_versionAt_41
      · replace h := az_neg c10 h
        refine lv_aload_n hx hb dX0_versionAt_13 rfl (lv_at hl 0 rfl) ?_
        refine lv_iload hx hb dX0_versionAt_14 (lv_at hl 4 rfl) ?_
        refine lv_iload_n hx hb dX0_versionAt_16 rfl (lv_at hl 1 rfl) ?_
        obtain ⟨o17, hc17, h⟩ := az_bnd h
        refine az_callVi (w2 := az_cB g ad V) (As := [.int y4, .int x1]) (rest := []) ⟨hx, hb, hml, hown, hts⟩ hl.1 (kX0_isVersion l g ad V y4 x1 o17 hc17) (cwV 2 hts gX0_versionAt_X0_isVersion rfl rfl rfl (by decide +kernel) ⟨Nat.le_of_ble_eq_true rfl, Nat.le_of_ble_eq_true rfl⟩) rfl hK hP hD hS hA [0, 1, 2, 3, 4, 5, 6] [] [0, 1, 2, 3, 4, 5, 6] rfl rfl rfl rfl rfl (by decide) rfl rfl rfl 0 rfl rfl rfl (Nat.le_of_ble_eq_true rfl) dX0_versionAt_17 ⟨Nat.zero_le _, Nat.zero_le _⟩ rfl (fun H locs hP hD hS => ?_)
        refine lv_if_eq (tgt := 34) hx hb dX0_versionAt_20 (by decide) (fun c20 => ?_) (fun c20 => ?_)
        · replace h := az_pos c20 h
          refine lv_iinc (v := y4 + (1 : Int32)) (lv' := [(4, .int (y4 + (1 : Int32))), (0, .ref (ad 6)), (1, .int x1), (2, .int x2), (3, .int y3)]) hx hb dX0_versionAt_34 hl (k := 4) rfl (rfl) (by decide) rfl (fun ls hl => ?_)
          refine lv_goto (tgt := 5) hx hb dX0_versionAt_37 (by decide) ?_
          have hP : va_P g.1 az_cl (az_cB g ad V) _ := hP
          have hD : va_D A (az_cB g ad V) := hD
          exact ih y3 (y4 + (1 : Int32)) _ _ ls h hP hD hS (lv_sub hl [1, 2, 3, 4, 0] rfl)
        · replace h := az_neg c20 h
          refine lv_iload_n hx hb dX0_versionAt_23 rfl (lv_at hl 3 rfl) ?_
          refine lv_iload_n hx hb dX0_versionAt_24 rfl (lv_at hl 2 rfl) ?_
          refine lv_icmp_ne (tgt := 31) hx hb dX0_versionAt_25 (by decide) (fun c25 => ?_) (fun c25 => ?_)
          · replace h := az_neg c25 h
            refine lv_iinc (v := y3 + (1 : Int32)) (lv' := [(3, .int (y3 + (1 : Int32))), (0, .ref (ad 6)), (1, .int x1), (2, .int x2), (4, .int y4)]) hx hb dX0_versionAt_31 hl (k := 3) rfl (rfl) (by decide) rfl (fun ls hl => ?_)
            refine lv_iinc (v := y4 + (1 : Int32)) (lv' := [(4, .int (y4 + (1 : Int32))), (3, .int (y3 + (1 : Int32))), (0, .ref (ad 6)), (1, .int x1), (2, .int x2)]) hx hb dX0_versionAt_34 hl (k := 4) rfl (rfl) (by decide) rfl (fun ls hl => ?_)
            refine lv_goto (tgt := 5) hx hb dX0_versionAt_37 (by decide) ?_
            have hP : va_P g.1 az_cl (az_cB g ad V) _ := hP
            have hD : va_D A (az_cB g ad V) := hD
            exact ih (y3 + (1 : Int32)) (y4 + (1 : Int32)) _ _ ls h hP hD hS (lv_sub hl [2, 3, 4, 1, 0] rfl)
          · replace h := az_pos c25 h
            refine lv_iload hx hb dX0_versionAt_28 (lv_at hl 4 rfl) ?_
            have hP : va_P g.1 az_cl (az_cB g ad V) _ := hP
            have hD : va_D A (az_cB g ad V) := hD
            rw [← Option.some.inj h]
            exact az_iret hx hb hr hlocks hK hP hD hS dX0_versionAt_30
  refine lv_iconst (v := (0 : Int32)) hx hb dX0_versionAt_0 (by decide) ?_
  refine lv_istore_n (lv' := [(3, .int (0 : Int32)), (0, .ref (ad 6)), (1, .int x1), (2, .int x2)]) hx hb dX0_versionAt_1 rfl hl (by decide) rfl (fun ls hl => ?_)
  refine lv_iconst (v := (0 : Int32)) hx hb dX0_versionAt_2 (by decide) ?_
  refine lv_istore (lv' := [(4, .int (0 : Int32)), (3, .int (0 : Int32)), (0, .ref (ad 6)), (1, .int x1), (2, .int x2)]) hx hb dX0_versionAt_3 hl (by decide) rfl (fun ls hl => ?_)
  have hP : va_P g.1 az_cl (az_cB g ad V) _ := hP
  have hD : va_D A (az_cB g ad V) := hD
  exact hL5 az_fuel (0 : Int32) (0 : Int32) _ _ ls h hP hD hS (lv_sub hl [2, 3, 4, 1, 0] rfl)

def FX0_beginToWait (V : az_St) (x1 : Int32) (x2 : Int32) : Option ((Nat → Int32) × (Nat → Int32)) := if az_in x1 160 = true then some (upd (V 5) x1.toNatClampNeg (3 : Int32), upd (V 9) x1.toNatClampNeg x2) else none
theorem inX0_beginToWait_RX0 : ∀ w ∈ wsX00, w ∈ wsX0_beginToWait := az_inr [3, 4, 5, 6, 7, 8] (by decide +kernel)
set_option maxHeartbeats 4000000 in
set_option maxRecDepth 100000 in
theorem kX0_beginToWait (l : Launch) (g : az_G) (ad : Nat → Nat) (V : az_St) (x1 : Int32) (x2 : Int32) (o : (Nat → Int32) × (Nat → Int32)) (h : FX0_beginToWait V x1 x2 = some o) : az_V l yX0_beginToWait wsX0_beginToWait ({ frames := 0, cells := 0, slots := 0, locals := 0 } : Room) [.ref (ad 6), .int x1, .int x2] g (az_cB g ad V) (az_cB g ad (va_up (va_up V 5 o.1) 9 o.2)) := by
  refine az_body (cc := cX0_beginToWait) (maxL := 3) (ret := none) (Qc := fun A => az_QV g (az_cB g ad (va_up (va_up V 5 o.1) 9 o.2)) A) (by decide +kernel) rfl (Nat.le_of_ble_eq_true rfl) ?_
  intro p e s m args below meth c A hx hb hr hts hown hml hlocks hA hK hP hD hS ls hl
  have hl : lv_has ls 3 [(0, .ref (ad 6)), (1, .int x1), (2, .int x2)] := hl
  unfold FX0_beginToWait at h
  refine lv_aload_n hx hb dX0_beginToWait_0 rfl (lv_at hl 0 rfl) ?_
  refine va_get (D := g.1) (ci := 0) (v := .ref (ad 7)) (C := RX0) (T := TX0) (N := 6) hx hb hts inX0_beginToWait_RX0 hown hK hP 0 rfl rfl 0 (Nat.le_of_ble_eq_true rfl) (hts _ (List.mem_of_getElem? (i := 1) rfl)) (fun _ h9 => h9) rfl dX0_beginToWait_1 ?_
  refine lv_iload_n hx hb dX0_beginToWait_4 rfl (lv_at hl 1 rfl) ?_
  refine lv_iconst (v := (3 : Int32)) hx hb dX0_beginToWait_5 (by decide) ?_
  obtain ⟨i6, h⟩ := az_ite h
  refine va_iast (D := g.1) (f := (V 5)) hx hb hK hP hD hS 1 0 rfl rfl (az_vin i6) dX0_beginToWait_6 (fun H locs hP hD hS => ?_)
  have hP : va_P g.1 az_cl (az_cB g ad (va_up V 5 (upd (V 5) x1.toNatClampNeg (3 : Int32)))) _ := hP
  have hD : va_D A (az_cB g ad (va_up V 5 (upd (V 5) x1.toNatClampNeg (3 : Int32)))) := hD
  refine lv_aload_n hx hb dX0_beginToWait_7 rfl (lv_at hl 0 rfl) ?_
  refine va_get (D := g.1) (ci := 0) (v := .ref (ad 11)) (C := RX0) (T := TX0) (N := 6) hx hb hts inX0_beginToWait_RX0 hown hK hP 0 rfl rfl 4 (Nat.le_of_ble_eq_true rfl) (hts _ (List.mem_of_getElem? (i := 2) rfl)) (fun _ h9 => h9) rfl dX0_beginToWait_8 ?_
  refine lv_iload_n hx hb dX0_beginToWait_11 rfl (lv_at hl 1 rfl) ?_
  refine lv_iload_n hx hb dX0_beginToWait_12 rfl (lv_at hl 2 rfl) ?_
  refine va_iast (D := g.1) (f := (V 9)) hx hb hK hP hD hS 5 0 rfl rfl (az_vin i6) dX0_beginToWait_13 (fun H locs hP hD hS => ?_)
  have hP : va_P g.1 az_cl (az_cB g ad (va_up (va_up V 5 (upd (V 5) x1.toNatClampNeg (3 : Int32))) 9 (upd (V 9) x1.toNatClampNeg x2))) _ := hP
  have hD : va_D A (az_cB g ad (va_up (va_up V 5 (upd (V 5) x1.toNatClampNeg (3 : Int32))) 9 (upd (V 9) x1.toNatClampNeg x2))) := hD
  have hP : va_P g.1 az_cl (az_cB g ad (va_up (va_up V 5 (upd (V 5) x1.toNatClampNeg (3 : Int32))) 9 (upd (V 9) x1.toNatClampNeg x2))) _ := hP
  have hD : va_D A (az_cB g ad (va_up (va_up V 5 (upd (V 5) x1.toNatClampNeg (3 : Int32))) 9 (upd (V 9) x1.toNatClampNeg x2))) := hD
  rw [← Option.some.inj h]
  exact az_vret hx hb hr hlocks hK hP hD hS dX0_beginToWait_14

def FX0_waitingUpTo_L4 : Nat → az_St → Int32 → Int32 → Int32 → Option (Int32)
  | 0, _, _, _, _ => none
  | n + 1, V, x1, y2, y3 => if (160 : Int32) ≤ y3 then (some (y2)) else (if az_in y3 160 = true then if (V 5) y3.toNatClampNeg = (3 : Int32) then (if x1 < (V 9) y3.toNatClampNeg then (FX0_waitingUpTo_L4 n V x1 y2 (y3 + (1 : Int32))) else (FX0_waitingUpTo_L4 n V x1 (y2 + (1 : Int32)) (y3 + (1 : Int32)))) else (FX0_waitingUpTo_L4 n V x1 y2 (y3 + (1 : Int32))) else none)
theorem FX0_waitingUpTo_L4_s (n : Nat) (V : az_St) (x1 : Int32) (y2 : Int32) (y3 : Int32) : FX0_waitingUpTo_L4 (n + 1) V x1 y2 y3 = (if (160 : Int32) ≤ y3 then (some (y2)) else (if az_in y3 160 = true then if (V 5) y3.toNatClampNeg = (3 : Int32) then (if x1 < (V 9) y3.toNatClampNeg then (FX0_waitingUpTo_L4 n V x1 y2 (y3 + (1 : Int32))) else (FX0_waitingUpTo_L4 n V x1 (y2 + (1 : Int32)) (y3 + (1 : Int32)))) else (FX0_waitingUpTo_L4 n V x1 y2 (y3 + (1 : Int32))) else none)) := rfl
def FX0_waitingUpTo (V : az_St) (x1 : Int32) : Option (Int32) := FX0_waitingUpTo_L4 az_fuel V x1 (0 : Int32) (0 : Int32)
theorem inX0_waitingUpTo_RX0 : ∀ w ∈ wsX00, w ∈ wsX0_waitingUpTo := az_inr [3, 4, 5, 6, 7, 8] (by decide +kernel)
set_option maxHeartbeats 4000000 in
set_option maxRecDepth 100000 in
theorem kX0_waitingUpTo (l : Launch) (g : az_G) (ad : Nat → Nat) (V : az_St) (x1 : Int32) (o : Int32) (h : FX0_waitingUpTo V x1 = some o) : az_I l yX0_waitingUpTo wsX0_waitingUpTo ({ frames := 0, cells := 0, slots := 0, locals := 0 } : Room) [.ref (ad 6), .int x1] g (az_cB g ad V) o (az_cB g ad V) := by
  refine az_body (cc := cX0_waitingUpTo) (maxL := 4) (ret := (some .int)) (Qc := fun A => az_QI g (az_cB g ad V) o A) (by decide +kernel) rfl (Nat.le_of_ble_eq_true rfl) ?_
  intro p e s m args below meth c A hx hb hr hts hown hml hlocks hA hK hP hD hS ls hl
  have hl : lv_has ls 4 [(0, .ref (ad 6)), (1, .int x1)] := hl
  unfold FX0_waitingUpTo at h
  have hL4 : ∀ (n : Nat) (y2 : Int32) (y3 : Int32) (H : Heap) (locs : List Loc) (ls : Array Slot), FX0_waitingUpTo_L4 n V x1 y2 y3 = some o → va_P g.1 az_cl (az_cB g ad V) H → va_D A (az_cB g ad V) → va_S A s.heap H locs → lv_has ls 4 [(0, .ref (ad 6)), (1, .int x1), (2, .int y2), (3, .int y3)] → W p l e ({ frames := 0, cells := 0, slots := 0, locals := 0 } : Room) s m args below meth c H locs 0 0 (MQ below (az_QI g (az_cB g ad V) o A) args s 0 0 A) (F0 m 4 ls []) := by
    intro n
    induction n with
    | zero => intro y2 y3 H locs ls h; exact az_non h
    | succ n ih =>
      intro y2 y3 H locs ls h hP hD hS hl
      rw [FX0_waitingUpTo_L4_s] at h
      refine lv_iload_n hx hb dX0_waitingUpTo_4 rfl (lv_at hl 3 rfl) ?_
      refine lv_sipush (v := (160 : Int32)) hx hb dX0_waitingUpTo_5 (by decide) ?_
      refine lv_icmp_ge (tgt := 40) hx hb dX0_waitingUpTo_8 (by decide) (fun c8 => ?_) (fun c8 => ?_)
      · replace h := az_pos c8 h
        refine lv_iload_n hx hb dX0_waitingUpTo_40 rfl (lv_at hl 2 rfl) ?_
        have hP : va_P g.1 az_cl (az_cB g ad V) _ := hP
        have hD : va_D A (az_cB g ad V) := hD
        rw [← Option.some.inj h]
        exact az_iret hx hb hr hlocks hK hP hD hS dX0_waitingUpTo_41
      · replace h := az_neg c8 h
        refine lv_aload_n hx hb dX0_waitingUpTo_11 rfl (lv_at hl 0 rfl) ?_
        refine va_get (D := g.1) (ci := 0) (v := .ref (ad 7)) (C := RX0) (T := TX0) (N := 6) hx hb hts inX0_waitingUpTo_RX0 hown hK hP 0 rfl rfl 0 (Nat.le_of_ble_eq_true rfl) (hts _ (List.mem_of_getElem? (i := 1) rfl)) (fun _ h9 => h9) rfl dX0_waitingUpTo_12 ?_
        refine lv_iload_n hx hb dX0_waitingUpTo_15 rfl (lv_at hl 3 rfl) ?_
        obtain ⟨i16, h⟩ := az_ite h
        refine va_iald (D := g.1) (f := (V 5)) hx hb hK hP 1 0 rfl rfl (az_vin i16) dX0_waitingUpTo_16 ?_
        refine lv_iconst (v := (3 : Int32)) hx hb dX0_waitingUpTo_17 (by decide) ?_
        refine lv_icmp_ne (tgt := 34) hx hb dX0_waitingUpTo_18 (by decide) (fun c18 => ?_) (fun c18 => ?_)
        · replace h := az_neg c18 h
          refine lv_iinc (v := y3 + (1 : Int32)) (lv' := [(3, .int (y3 + (1 : Int32))), (0, .ref (ad 6)), (1, .int x1), (2, .int y2)]) hx hb dX0_waitingUpTo_34 hl (k := 3) rfl (rfl) (by decide) rfl (fun ls hl => ?_)
          refine lv_goto (tgt := 4) hx hb dX0_waitingUpTo_37 (by decide) ?_
          have hP : va_P g.1 az_cl (az_cB g ad V) _ := hP
          have hD : va_D A (az_cB g ad V) := hD
          exact ih y2 (y3 + (1 : Int32)) _ _ ls h hP hD hS (lv_sub hl [1, 2, 3, 0] rfl)
        · replace h := az_pos c18 h
          refine lv_aload_n hx hb dX0_waitingUpTo_21 rfl (lv_at hl 0 rfl) ?_
          refine va_get (D := g.1) (ci := 0) (v := .ref (ad 11)) (C := RX0) (T := TX0) (N := 6) hx hb hts inX0_waitingUpTo_RX0 hown hK hP 0 rfl rfl 4 (Nat.le_of_ble_eq_true rfl) (hts _ (List.mem_of_getElem? (i := 2) rfl)) (fun _ h9 => h9) rfl dX0_waitingUpTo_22 ?_
          refine lv_iload_n hx hb dX0_waitingUpTo_25 rfl (lv_at hl 3 rfl) ?_
          refine va_iald (D := g.1) (f := (V 9)) hx hb hK hP 5 0 rfl rfl (az_vin i16) dX0_waitingUpTo_26 ?_
          refine lv_iload_n hx hb dX0_waitingUpTo_27 rfl (lv_at hl 1 rfl) ?_
          refine lv_icmp_gt (tgt := 34) hx hb dX0_waitingUpTo_28 (by decide) (fun c28 => ?_) (fun c28 => ?_)
          · replace h := az_pos c28 h
            refine lv_iinc (v := y3 + (1 : Int32)) (lv' := [(3, .int (y3 + (1 : Int32))), (0, .ref (ad 6)), (1, .int x1), (2, .int y2)]) hx hb dX0_waitingUpTo_34 hl (k := 3) rfl (rfl) (by decide) rfl (fun ls hl => ?_)
            refine lv_goto (tgt := 4) hx hb dX0_waitingUpTo_37 (by decide) ?_
            have hP : va_P g.1 az_cl (az_cB g ad V) _ := hP
            have hD : va_D A (az_cB g ad V) := hD
            exact ih y2 (y3 + (1 : Int32)) _ _ ls h hP hD hS (lv_sub hl [1, 2, 3, 0] rfl)
          · replace h := az_neg c28 h
            refine lv_iinc (v := y2 + (1 : Int32)) (lv' := [(2, .int (y2 + (1 : Int32))), (0, .ref (ad 6)), (1, .int x1), (3, .int y3)]) hx hb dX0_waitingUpTo_31 hl (k := 2) rfl (rfl) (by decide) rfl (fun ls hl => ?_)
            refine lv_iinc (v := y3 + (1 : Int32)) (lv' := [(3, .int (y3 + (1 : Int32))), (2, .int (y2 + (1 : Int32))), (0, .ref (ad 6)), (1, .int x1)]) hx hb dX0_waitingUpTo_34 hl (k := 3) rfl (rfl) (by decide) rfl (fun ls hl => ?_)
            refine lv_goto (tgt := 4) hx hb dX0_waitingUpTo_37 (by decide) ?_
            have hP : va_P g.1 az_cl (az_cB g ad V) _ := hP
            have hD : va_D A (az_cB g ad V) := hD
            exact ih (y2 + (1 : Int32)) (y3 + (1 : Int32)) _ _ ls h hP hD hS (lv_sub hl [2, 3, 1, 0] rfl)
  refine lv_iconst (v := (0 : Int32)) hx hb dX0_waitingUpTo_0 (by decide) ?_
  refine lv_istore_n (lv' := [(2, .int (0 : Int32)), (0, .ref (ad 6)), (1, .int x1)]) hx hb dX0_waitingUpTo_1 rfl hl (by decide) rfl (fun ls hl => ?_)
  refine lv_iconst (v := (0 : Int32)) hx hb dX0_waitingUpTo_2 (by decide) ?_
  refine lv_istore_n (lv' := [(3, .int (0 : Int32)), (2, .int (0 : Int32)), (0, .ref (ad 6)), (1, .int x1)]) hx hb dX0_waitingUpTo_3 rfl hl (by decide) rfl (fun ls hl => ?_)
  have hP : va_P g.1 az_cl (az_cB g ad V) _ := hP
  have hD : va_D A (az_cB g ad V) := hD
  exact hL4 az_fuel (0 : Int32) (0 : Int32) _ _ ls h hP hD hS (lv_sub hl [2, 3, 1, 0] rfl)

def FX0_latestWaitingEpoch_L5 : Nat → az_St → Int32 → Int32 → Int32 → Int32 → Option (Int32)
  | 0, _, _, _, _, _ => none
  | n + 1, V, x1, x2, y3, y4 => if x2 ≤ y4 then (some (y3)) else (if az_in y4 160 = true then az_lt ((if y3 < (V 9) y4.toNatClampNeg then (V 9) y4.toNatClampNeg else y3)) (fun z22 => FX0_latestWaitingEpoch_L5 n V x1 x2 z22 (y4 + (1 : Int32))) else none)
theorem FX0_latestWaitingEpoch_L5_s (n : Nat) (V : az_St) (x1 : Int32) (x2 : Int32) (y3 : Int32) (y4 : Int32) : FX0_latestWaitingEpoch_L5 (n + 1) V x1 x2 y3 y4 = (if x2 ≤ y4 then (some (y3)) else (if az_in y4 160 = true then az_lt ((if y3 < (V 9) y4.toNatClampNeg then (V 9) y4.toNatClampNeg else y3)) (fun z22 => FX0_latestWaitingEpoch_L5 n V x1 x2 z22 (y4 + (1 : Int32))) else none)) := rfl
def FX0_latestWaitingEpoch (V : az_St) (x1 : Int32) (x2 : Int32) : Option (Int32) := FX0_latestWaitingEpoch_L5 az_fuel V x1 x2 (-1 : Int32) x1
theorem inX0_latestWaitingEpoch_RX0 : ∀ w ∈ wsX00, w ∈ wsX0_latestWaitingEpoch := az_inr [6, 7, 8, 9, 10, 11] (by decide +kernel)
set_option maxHeartbeats 4000000 in
set_option maxRecDepth 100000 in
theorem kX0_latestWaitingEpoch (l : Launch) (g : az_G) (ad : Nat → Nat) (V : az_St) (x1 : Int32) (x2 : Int32) (o : Int32) (h : FX0_latestWaitingEpoch V x1 x2 = some o) : az_I l yX0_latestWaitingEpoch wsX0_latestWaitingEpoch ({ frames := 1, cells := 0, slots := 0, locals := 40 } : Room) [.ref (ad 6), .int x1, .int x2] g (az_cB g ad V) o (az_cB g ad V) := by
  refine az_body (cc := cX0_latestWaitingEpoch) (maxL := 5) (ret := (some .int)) (Qc := fun A => az_QI g (az_cB g ad V) o A) (by decide +kernel) rfl (Nat.le_of_ble_eq_true rfl) ?_
  intro p e s m args below meth c A hx hb hr hts hown hml hlocks hA hK hP hD hS ls hl
  have hl : lv_has ls 5 [(0, .ref (ad 6)), (1, .int x1), (2, .int x2)] := hl
  unfold FX0_latestWaitingEpoch at h
  have hL5 : ∀ (n : Nat) (y3 : Int32) (y4 : Int32) (H : Heap) (locs : List Loc) (ls : Array Slot), FX0_latestWaitingEpoch_L5 n V x1 x2 y3 y4 = some o → va_P g.1 az_cl (az_cB g ad V) H → va_D A (az_cB g ad V) → va_S A s.heap H locs → lv_has ls 5 [(0, .ref (ad 6)), (2, .int x2), (3, .int y3), (4, .int y4)] → W p l e ({ frames := 1, cells := 0, slots := 0, locals := 40 } : Room) s m args below meth c H locs 0 0 (MQ below (az_QI g (az_cB g ad V) o A) args s 0 0 A) (F0 m 5 ls []) := by
    intro n
    induction n with
    | zero => intro y3 y4 H locs ls h; exact az_non h
    | succ n ih =>
      intro y3 y4 H locs ls h hP hD hS hl
      rw [FX0_latestWaitingEpoch_L5_s] at h
      refine lv_iload hx hb dX0_latestWaitingEpoch_5 (lv_at hl 3 rfl) ?_
      refine lv_iload_n hx hb dX0_latestWaitingEpoch_7 rfl (lv_at hl 1 rfl) ?_
      refine lv_icmp_ge (tgt := 29) hx hb dX0_latestWaitingEpoch_8 (by decide) (fun c8 => ?_) (fun c8 => ?_)
      · replace h := az_pos c8 h
        refine lv_iload_n hx hb dX0_latestWaitingEpoch_29 rfl (lv_at hl 2 rfl) ?_
        have hP : va_P g.1 az_cl (az_cB g ad V) _ := hP
        have hD : va_D A (az_cB g ad V) := hD
        rw [← Option.some.inj h]
        exact az_iret hx hb hr hlocks hK hP hD hS dX0_latestWaitingEpoch_30
      · replace h := az_neg c8 h
        refine lv_iload_n hx hb dX0_latestWaitingEpoch_11 rfl (lv_at hl 2 rfl) ?_
        refine lv_aload_n hx hb dX0_latestWaitingEpoch_12 rfl (lv_at hl 0 rfl) ?_
        refine va_get (D := g.1) (ci := 0) (v := .ref (ad 11)) (C := RX0) (T := TX0) (N := 6) hx hb hts inX0_latestWaitingEpoch_RX0 hown hK hP 0 rfl rfl 4 (Nat.le_of_ble_eq_true rfl) (hts _ (List.mem_of_getElem? (i := 1) rfl)) (fun _ h9 => h9) rfl dX0_latestWaitingEpoch_13 ?_
        refine lv_iload hx hb dX0_latestWaitingEpoch_16 (lv_at hl 3 rfl) ?_
        obtain ⟨i18, h⟩ := az_ite h
        refine va_iald (D := g.1) (f := (V 9)) hx hb hK hP 5 0 rfl rfl (az_vin i18) dX0_latestWaitingEpoch_18 ?_
        refine va_mmax hx hb (hml.trans hl.1.symm) hown (hts _ (List.mem_of_getElem? (i := 2) rfl)) (hts _ (List.mem_of_getElem? (i := 3) rfl)) (hts _ (List.mem_of_getElem? (i := 4) rfl)) (hts _ (List.mem_of_getElem? (i := 5) rfl)) (Nat.le_of_ble_eq_true rfl) (Nat.le_of_ble_eq_true rfl) (Nat.zero_le _) (Nat.zero_le _) dX0_latestWaitingEpoch_19 ?_
        refine lv_topi (x := (if y3 < (V 9) y4.toNatClampNeg then (V 9) y4.toNatClampNeg else y3)) (fun z22 e22 => ?_)
        replace h := az_let e22 h
        refine lv_istore_n (lv' := [(3, .int z22), (0, .ref (ad 6)), (2, .int x2), (4, .int y4)]) hx hb dX0_latestWaitingEpoch_22 rfl hl (by decide) rfl (fun ls hl => ?_)
        refine lv_iinc (v := y4 + (1 : Int32)) (lv' := [(4, .int (y4 + (1 : Int32))), (3, .int z22), (0, .ref (ad 6)), (2, .int x2)]) hx hb dX0_latestWaitingEpoch_23 hl (k := 3) rfl (rfl) (by decide) rfl (fun ls hl => ?_)
        refine lv_goto (tgt := 5) hx hb dX0_latestWaitingEpoch_26 (by decide) ?_
        have hP : va_P g.1 az_cl (az_cB g ad V) _ := hP
        have hD : va_D A (az_cB g ad V) := hD
        exact ih z22 (y4 + (1 : Int32)) _ _ ls h hP hD hS (lv_sub hl [2, 3, 1, 0] rfl)
  refine lv_iconst (v := (-1 : Int32)) hx hb dX0_latestWaitingEpoch_0 (by decide) ?_
  refine lv_istore_n (lv' := [(3, .int (-1 : Int32)), (0, .ref (ad 6)), (1, .int x1), (2, .int x2)]) hx hb dX0_latestWaitingEpoch_1 rfl hl (by decide) rfl (fun ls hl => ?_)
  refine lv_iload_n hx hb dX0_latestWaitingEpoch_2 rfl (lv_at hl 2 rfl) ?_
  refine lv_istore (lv' := [(4, .int x1), (3, .int (-1 : Int32)), (0, .ref (ad 6)), (1, .int x1), (2, .int x2)]) hx hb dX0_latestWaitingEpoch_3 hl (by decide) rfl (fun ls hl => ?_)
  have hP : va_P g.1 az_cl (az_cB g ad V) _ := hP
  have hD : va_D A (az_cB g ad V) := hD
  exact hL5 az_fuel (-1 : Int32) x1 _ _ ls h hP hD hS (lv_sub hl [2, 4, 1, 0] rfl)

def FX0_letDie_L4 : Nat → az_St → Int32 → (Nat → Int32) → (Nat → Int32) → Int32 → Int32 → Option (Int32 × (Nat → Int32) × (Nat → Int32))
  | 0, _, _, _, _, _, _ => none
  | n + 1, V, x1, wV5, wV9, y2, y3 => if (160 : Int32) ≤ y3 then (some (y2, wV5, wV9)) else (if az_in y3 160 = true then if wV5 y3.toNatClampNeg = (3 : Int32) then (if x1 < wV9 y3.toNatClampNeg then (FX0_letDie_L4 n V x1 wV5 wV9 y2 (y3 + (1 : Int32))) else (FX0_letDie_L4 n V x1 (upd wV5 y3.toNatClampNeg (4 : Int32)) (upd wV9 y3.toNatClampNeg (-1 : Int32)) (y2 + (1 : Int32)) (y3 + (1 : Int32)))) else (FX0_letDie_L4 n V x1 wV5 wV9 y2 (y3 + (1 : Int32))) else none)
theorem FX0_letDie_L4_s (n : Nat) (V : az_St) (x1 : Int32) (wV5 : Nat → Int32) (wV9 : Nat → Int32) (y2 : Int32) (y3 : Int32) : FX0_letDie_L4 (n + 1) V x1 wV5 wV9 y2 y3 = (if (160 : Int32) ≤ y3 then (some (y2, wV5, wV9)) else (if az_in y3 160 = true then if wV5 y3.toNatClampNeg = (3 : Int32) then (if x1 < wV9 y3.toNatClampNeg then (FX0_letDie_L4 n V x1 wV5 wV9 y2 (y3 + (1 : Int32))) else (FX0_letDie_L4 n V x1 (upd wV5 y3.toNatClampNeg (4 : Int32)) (upd wV9 y3.toNatClampNeg (-1 : Int32)) (y2 + (1 : Int32)) (y3 + (1 : Int32)))) else (FX0_letDie_L4 n V x1 wV5 wV9 y2 (y3 + (1 : Int32))) else none)) := rfl
def FX0_letDie (V : az_St) (x1 : Int32) : Option (Int32 × (Nat → Int32) × (Nat → Int32)) := FX0_letDie_L4 az_fuel V x1 (V 5) (V 9) (0 : Int32) (0 : Int32)
theorem inX0_letDie_RX0 : ∀ w ∈ wsX00, w ∈ wsX0_letDie := az_inr [3, 4, 5, 6, 7, 8] (by decide +kernel)
set_option maxHeartbeats 4000000 in
set_option maxRecDepth 100000 in
theorem kX0_letDie (l : Launch) (g : az_G) (ad : Nat → Nat) (V : az_St) (x1 : Int32) (o : Int32 × (Nat → Int32) × (Nat → Int32)) (h : FX0_letDie V x1 = some o) : az_I l yX0_letDie wsX0_letDie ({ frames := 0, cells := 0, slots := 0, locals := 0 } : Room) [.ref (ad 6), .int x1] g (az_cB g ad V) o.1 (az_cB g ad (va_up (va_up V 5 o.2.1) 9 o.2.2)) := by
  refine az_body (cc := cX0_letDie) (maxL := 4) (ret := (some .int)) (Qc := fun A => az_QI g (az_cB g ad (va_up (va_up V 5 o.2.1) 9 o.2.2)) o.1 A) (by decide +kernel) rfl (Nat.le_of_ble_eq_true rfl) ?_
  intro p e s m args below meth c A hx hb hr hts hown hml hlocks hA hK hP hD hS ls hl
  have hl : lv_has ls 4 [(0, .ref (ad 6)), (1, .int x1)] := hl
  unfold FX0_letDie at h
  have hL4 : ∀ (n : Nat) (wV5 : Nat → Int32) (wV9 : Nat → Int32) (y2 : Int32) (y3 : Int32) (H : Heap) (locs : List Loc) (ls : Array Slot), FX0_letDie_L4 n V x1 wV5 wV9 y2 y3 = some o → va_P g.1 az_cl (az_cB g ad (va_up (va_up V 5 wV5) 9 wV9)) H → va_D A (az_cB g ad (va_up (va_up V 5 wV5) 9 wV9)) → va_S A s.heap H locs → lv_has ls 4 [(0, .ref (ad 6)), (1, .int x1), (2, .int y2), (3, .int y3)] → W p l e ({ frames := 0, cells := 0, slots := 0, locals := 0 } : Room) s m args below meth c H locs 0 0 (MQ below (az_QI g (az_cB g ad (va_up (va_up V 5 o.2.1) 9 o.2.2)) o.1 A) args s 0 0 A) (F0 m 4 ls []) := by
    intro n
    induction n with
    | zero => intro wV5 wV9 y2 y3 H locs ls h; exact az_non h
    | succ n ih =>
      intro wV5 wV9 y2 y3 H locs ls h hP hD hS hl
      rw [FX0_letDie_L4_s] at h
      refine lv_iload_n hx hb dX0_letDie_4 rfl (lv_at hl 3 rfl) ?_
      refine lv_sipush (v := (160 : Int32)) hx hb dX0_letDie_5 (by decide) ?_
      refine lv_icmp_ge (tgt := 54) hx hb dX0_letDie_8 (by decide) (fun c8 => ?_) (fun c8 => ?_)
      · replace h := az_pos c8 h
        refine lv_iload_n hx hb dX0_letDie_54 rfl (lv_at hl 2 rfl) ?_
        have hP : va_P g.1 az_cl (az_cB g ad (va_up (va_up V 5 wV5) 9 wV9)) _ := hP
        have hD : va_D A (az_cB g ad (va_up (va_up V 5 wV5) 9 wV9)) := hD
        rw [← Option.some.inj h]
        exact az_iret hx hb hr hlocks hK hP hD hS dX0_letDie_55
      · replace h := az_neg c8 h
        refine lv_aload_n hx hb dX0_letDie_11 rfl (lv_at hl 0 rfl) ?_
        refine va_get (D := g.1) (ci := 0) (v := .ref (ad 7)) (C := RX0) (T := TX0) (N := 6) hx hb hts inX0_letDie_RX0 hown hK hP 0 rfl rfl 0 (Nat.le_of_ble_eq_true rfl) (hts _ (List.mem_of_getElem? (i := 1) rfl)) (fun _ h9 => h9) rfl dX0_letDie_12 ?_
        refine lv_iload_n hx hb dX0_letDie_15 rfl (lv_at hl 3 rfl) ?_
        obtain ⟨i16, h⟩ := az_ite h
        refine va_iald (D := g.1) (f := wV5) hx hb hK hP 1 0 rfl rfl (az_vin i16) dX0_letDie_16 ?_
        refine lv_iconst (v := (3 : Int32)) hx hb dX0_letDie_17 (by decide) ?_
        refine lv_icmp_ne (tgt := 48) hx hb dX0_letDie_18 (by decide) (fun c18 => ?_) (fun c18 => ?_)
        · replace h := az_neg c18 h
          refine lv_iinc (v := y3 + (1 : Int32)) (lv' := [(3, .int (y3 + (1 : Int32))), (0, .ref (ad 6)), (1, .int x1), (2, .int y2)]) hx hb dX0_letDie_48 hl (k := 3) rfl (rfl) (by decide) rfl (fun ls hl => ?_)
          refine lv_goto (tgt := 4) hx hb dX0_letDie_51 (by decide) ?_
          have hP : va_P g.1 az_cl (az_cB g ad (va_up (va_up V 5 wV5) 9 wV9)) _ := hP
          have hD : va_D A (az_cB g ad (va_up (va_up V 5 wV5) 9 wV9)) := hD
          exact ih wV5 wV9 y2 (y3 + (1 : Int32)) _ _ ls h hP hD hS (lv_sub hl [1, 2, 3, 0] rfl)
        · replace h := az_pos c18 h
          refine lv_aload_n hx hb dX0_letDie_21 rfl (lv_at hl 0 rfl) ?_
          refine va_get (D := g.1) (ci := 0) (v := .ref (ad 11)) (C := RX0) (T := TX0) (N := 6) hx hb hts inX0_letDie_RX0 hown hK hP 0 rfl rfl 4 (Nat.le_of_ble_eq_true rfl) (hts _ (List.mem_of_getElem? (i := 2) rfl)) (fun _ h9 => h9) rfl dX0_letDie_22 ?_
          refine lv_iload_n hx hb dX0_letDie_25 rfl (lv_at hl 3 rfl) ?_
          refine va_iald (D := g.1) (f := wV9) hx hb hK hP 5 0 rfl rfl (az_vin i16) dX0_letDie_26 ?_
          refine lv_iload_n hx hb dX0_letDie_27 rfl (lv_at hl 1 rfl) ?_
          refine lv_icmp_gt (tgt := 48) hx hb dX0_letDie_28 (by decide) (fun c28 => ?_) (fun c28 => ?_)
          · replace h := az_pos c28 h
            refine lv_iinc (v := y3 + (1 : Int32)) (lv' := [(3, .int (y3 + (1 : Int32))), (0, .ref (ad 6)), (1, .int x1), (2, .int y2)]) hx hb dX0_letDie_48 hl (k := 3) rfl (rfl) (by decide) rfl (fun ls hl => ?_)
            refine lv_goto (tgt := 4) hx hb dX0_letDie_51 (by decide) ?_
            have hP : va_P g.1 az_cl (az_cB g ad (va_up (va_up V 5 wV5) 9 wV9)) _ := hP
            have hD : va_D A (az_cB g ad (va_up (va_up V 5 wV5) 9 wV9)) := hD
            exact ih wV5 wV9 y2 (y3 + (1 : Int32)) _ _ ls h hP hD hS (lv_sub hl [1, 2, 3, 0] rfl)
          · replace h := az_neg c28 h
            refine lv_aload_n hx hb dX0_letDie_31 rfl (lv_at hl 0 rfl) ?_
            refine va_get (D := g.1) (ci := 0) (v := .ref (ad 7)) (C := RX0) (T := TX0) (N := 6) hx hb hts inX0_letDie_RX0 hown hK hP 0 rfl rfl 0 (Nat.le_of_ble_eq_true rfl) (hts _ (List.mem_of_getElem? (i := 1) rfl)) (fun _ h9 => h9) rfl dX0_letDie_32 ?_
            refine lv_iload_n hx hb dX0_letDie_35 rfl (lv_at hl 3 rfl) ?_
            refine lv_iconst (v := (4 : Int32)) hx hb dX0_letDie_36 (by decide) ?_
            refine va_iast (D := g.1) (f := wV5) hx hb hK hP hD hS 1 0 rfl rfl (az_vin i16) dX0_letDie_37 (fun H locs hP hD hS => ?_)
            have hP : va_P g.1 az_cl (az_cB g ad (va_up (va_up V 5 (upd wV5 y3.toNatClampNeg (4 : Int32))) 9 wV9)) _ := hP
            have hD : va_D A (az_cB g ad (va_up (va_up V 5 (upd wV5 y3.toNatClampNeg (4 : Int32))) 9 wV9)) := hD
            refine lv_aload_n hx hb dX0_letDie_38 rfl (lv_at hl 0 rfl) ?_
            refine va_get (D := g.1) (ci := 0) (v := .ref (ad 11)) (C := RX0) (T := TX0) (N := 6) hx hb hts inX0_letDie_RX0 hown hK hP 0 rfl rfl 4 (Nat.le_of_ble_eq_true rfl) (hts _ (List.mem_of_getElem? (i := 2) rfl)) (fun _ h9 => h9) rfl dX0_letDie_39 ?_
            refine lv_iload_n hx hb dX0_letDie_42 rfl (lv_at hl 3 rfl) ?_
            refine lv_iconst (v := (-1 : Int32)) hx hb dX0_letDie_43 (by decide) ?_
            refine va_iast (D := g.1) (f := wV9) hx hb hK hP hD hS 5 0 rfl rfl (az_vin i16) dX0_letDie_44 (fun H locs hP hD hS => ?_)
            have hP : va_P g.1 az_cl (az_cB g ad (va_up (va_up V 5 (upd wV5 y3.toNatClampNeg (4 : Int32))) 9 (upd wV9 y3.toNatClampNeg (-1 : Int32)))) _ := hP
            have hD : va_D A (az_cB g ad (va_up (va_up V 5 (upd wV5 y3.toNatClampNeg (4 : Int32))) 9 (upd wV9 y3.toNatClampNeg (-1 : Int32)))) := hD
            refine lv_iinc (v := y2 + (1 : Int32)) (lv' := [(2, .int (y2 + (1 : Int32))), (0, .ref (ad 6)), (1, .int x1), (3, .int y3)]) hx hb dX0_letDie_45 hl (k := 2) rfl (rfl) (by decide) rfl (fun ls hl => ?_)
            refine lv_iinc (v := y3 + (1 : Int32)) (lv' := [(3, .int (y3 + (1 : Int32))), (2, .int (y2 + (1 : Int32))), (0, .ref (ad 6)), (1, .int x1)]) hx hb dX0_letDie_48 hl (k := 3) rfl (rfl) (by decide) rfl (fun ls hl => ?_)
            refine lv_goto (tgt := 4) hx hb dX0_letDie_51 (by decide) ?_
            have hP : va_P g.1 az_cl (az_cB g ad (va_up (va_up V 5 (upd wV5 y3.toNatClampNeg (4 : Int32))) 9 (upd wV9 y3.toNatClampNeg (-1 : Int32)))) _ := hP
            have hD : va_D A (az_cB g ad (va_up (va_up V 5 (upd wV5 y3.toNatClampNeg (4 : Int32))) 9 (upd wV9 y3.toNatClampNeg (-1 : Int32)))) := hD
            exact ih (upd wV5 y3.toNatClampNeg (4 : Int32)) (upd wV9 y3.toNatClampNeg (-1 : Int32)) (y2 + (1 : Int32)) (y3 + (1 : Int32)) _ _ ls h hP hD hS (lv_sub hl [2, 3, 1, 0] rfl)
  refine lv_iconst (v := (0 : Int32)) hx hb dX0_letDie_0 (by decide) ?_
  refine lv_istore_n (lv' := [(2, .int (0 : Int32)), (0, .ref (ad 6)), (1, .int x1)]) hx hb dX0_letDie_1 rfl hl (by decide) rfl (fun ls hl => ?_)
  refine lv_iconst (v := (0 : Int32)) hx hb dX0_letDie_2 (by decide) ?_
  refine lv_istore_n (lv' := [(3, .int (0 : Int32)), (2, .int (0 : Int32)), (0, .ref (ad 6)), (1, .int x1)]) hx hb dX0_letDie_3 rfl hl (by decide) rfl (fun ls hl => ?_)
  have hP : va_P g.1 az_cl (az_cB g ad (va_up (va_up V 5 (V 5)) 9 (V 9))) _ := hP
  have hD : va_D A (az_cB g ad (va_up (va_up V 5 (V 5)) 9 (V 9))) := hD
  exact hL4 az_fuel (V 5) (V 9) (0 : Int32) (0 : Int32) _ _ ls h hP hD hS (lv_sub hl [2, 3, 1, 0] rfl)

def FX0_isHeldBy (V : az_St) (x1 : Int32) (x2 : Int32) : Option (Int32) := if az_in x1 160 = true then if ((V 10) x1.toNatClampNeg) &&& ((1 : Int32) <<< (x2 &&& 31)) = (0 : Int32) then (some ((0 : Int32))) else (some ((1 : Int32))) else none
theorem inX0_isHeldBy_RX0 : ∀ w ∈ wsX00, w ∈ wsX0_isHeldBy := az_inr [2, 3, 4, 5, 6, 7] (by decide +kernel)
set_option maxHeartbeats 4000000 in
set_option maxRecDepth 100000 in
theorem kX0_isHeldBy (l : Launch) (g : az_G) (ad : Nat → Nat) (V : az_St) (x1 : Int32) (x2 : Int32) (o : Int32) (h : FX0_isHeldBy V x1 x2 = some o) : az_I l yX0_isHeldBy wsX0_isHeldBy ({ frames := 0, cells := 0, slots := 0, locals := 0 } : Room) [.ref (ad 6), .int x1, .int x2] g (az_cB g ad V) o (az_cB g ad V) := by
  refine az_body (cc := cX0_isHeldBy) (maxL := 3) (ret := (some .boolean)) (Qc := fun A => az_QI g (az_cB g ad V) o A) (by decide +kernel) rfl (Nat.le_of_ble_eq_true rfl) ?_
  intro p e s m args below meth c A hx hb hr hts hown hml hlocks hA hK hP hD hS ls hl
  have hl : lv_has ls 3 [(0, .ref (ad 6)), (1, .int x1), (2, .int x2)] := hl
  unfold FX0_isHeldBy at h
  refine lv_aload_n hx hb dX0_isHeldBy_0 rfl (lv_at hl 0 rfl) ?_
  refine va_get (D := g.1) (ci := 0) (v := .ref (ad 12)) (C := RX0) (T := TX0) (N := 6) hx hb hts inX0_isHeldBy_RX0 hown hK hP 0 rfl rfl 5 (Nat.le_of_ble_eq_true rfl) (hts _ (List.mem_of_getElem? (i := 1) rfl)) (fun _ h9 => h9) rfl dX0_isHeldBy_1 ?_
  refine lv_iload_n hx hb dX0_isHeldBy_4 rfl (lv_at hl 1 rfl) ?_
  obtain ⟨i5, h⟩ := az_ite h
  refine va_iald (D := g.1) (f := (V 10)) hx hb hK hP 6 0 rfl rfl (az_vin i5) dX0_isHeldBy_5 ?_
  refine lv_iconst (v := (1 : Int32)) hx hb dX0_isHeldBy_6 (by decide) ?_
  refine lv_iload_n hx hb dX0_isHeldBy_7 rfl (lv_at hl 2 rfl) ?_
  refine lv_ishl hx hb dX0_isHeldBy_8 ?_
  refine lv_iand hx hb dX0_isHeldBy_9 ?_
  refine lv_if_eq (tgt := 17) hx hb dX0_isHeldBy_10 (by decide) (fun c10 => ?_) (fun c10 => ?_)
  · replace h := az_pos c10 h
    refine lv_iconst (v := (0 : Int32)) hx hb dX0_isHeldBy_17 (by decide) ?_
    have hP : va_P g.1 az_cl (az_cB g ad V) _ := hP
    have hD : va_D A (az_cB g ad V) := hD
    rw [← Option.some.inj h]
    exact az_zret hx hb hr hlocks rfl hK hP hD hS dX0_isHeldBy_18
  · replace h := az_neg c10 h
    refine lv_iconst (v := (1 : Int32)) hx hb dX0_isHeldBy_13 (by decide) ?_
    refine lv_goto (tgt := 18) hx hb dX0_isHeldBy_14 (by decide) ?_
    have hP : va_P g.1 az_cl (az_cB g ad V) _ := hP
    have hD : va_D A (az_cB g ad V) := hD
    rw [← Option.some.inj h]
    exact az_zret hx hb hr hlocks rfl hK hP hD hS dX0_isHeldBy_18

def FX0_addHolder (V : az_St) (x1 : Int32) (x2 : Int32) : Option ((Nat → Int32)) := if az_in x1 160 = true then az_lt (upd (V 10) x1.toNatClampNeg (((V 10) x1.toNatClampNeg) ||| ((1 : Int32) <<< (x2 &&& 31)))) (fun u11 => some (u11)) else none
theorem inX0_addHolder_RX0 : ∀ w ∈ wsX00, w ∈ wsX0_addHolder := az_inr [2, 3, 4, 5, 6, 7] (by decide +kernel)
set_option maxHeartbeats 4000000 in
set_option maxRecDepth 100000 in
theorem kX0_addHolder (l : Launch) (g : az_G) (ad : Nat → Nat) (V : az_St) (x1 : Int32) (x2 : Int32) (o : (Nat → Int32)) (h : FX0_addHolder V x1 x2 = some o) : az_V l yX0_addHolder wsX0_addHolder ({ frames := 0, cells := 0, slots := 0, locals := 0 } : Room) [.ref (ad 6), .int x1, .int x2] g (az_cB g ad V) (az_cB g ad (va_up V 10 o)) := by
  refine az_body (cc := cX0_addHolder) (maxL := 3) (ret := none) (Qc := fun A => az_QV g (az_cB g ad (va_up V 10 o)) A) (by decide +kernel) rfl (Nat.le_of_ble_eq_true rfl) ?_
  intro p e s m args below meth c A hx hb hr hts hown hml hlocks hA hK hP hD hS ls hl
  have hl : lv_has ls 3 [(0, .ref (ad 6)), (1, .int x1), (2, .int x2)] := hl
  unfold FX0_addHolder at h
  refine lv_aload_n hx hb dX0_addHolder_0 rfl (lv_at hl 0 rfl) ?_
  refine va_get (D := g.1) (ci := 0) (v := .ref (ad 12)) (C := RX0) (T := TX0) (N := 6) hx hb hts inX0_addHolder_RX0 hown hK hP 0 rfl rfl 5 (Nat.le_of_ble_eq_true rfl) (hts _ (List.mem_of_getElem? (i := 1) rfl)) (fun _ h9 => h9) rfl dX0_addHolder_1 ?_
  refine lv_iload_n hx hb dX0_addHolder_4 rfl (lv_at hl 1 rfl) ?_
  refine lv_dup2_11 hx hb dX0_addHolder_5 rfl rfl ?_
  obtain ⟨i6, h⟩ := az_ite h
  refine va_iald (D := g.1) (f := (V 10)) hx hb hK hP 6 0 rfl rfl (az_vin i6) dX0_addHolder_6 ?_
  refine lv_iconst (v := (1 : Int32)) hx hb dX0_addHolder_7 (by decide) ?_
  refine lv_iload_n hx hb dX0_addHolder_8 rfl (lv_at hl 2 rfl) ?_
  refine lv_ishl hx hb dX0_addHolder_9 ?_
  refine lv_ior hx hb dX0_addHolder_10 ?_
  refine va_iast (D := g.1) (f := (V 10)) hx hb hK hP hD hS 6 0 rfl rfl (az_vin i6) dX0_addHolder_11 (fun H locs hP hD hS => ?_)
  obtain ⟨u11, e11⟩ : ∃ w : Nat → Int32, w = upd (V 10) x1.toNatClampNeg (((V 10) x1.toNatClampNeg) ||| ((1 : Int32) <<< (x2 &&& 31))) := ⟨_, rfl⟩
  have hP : va_P g.1 az_cl (az_cB g ad (va_up V 10 u11)) H := by rw [e11]; exact hP
  have hD : va_D A (az_cB g ad (va_up V 10 u11)) := by rw [e11]; exact hD
  replace h := az_let e11 h
  have hP : va_P g.1 az_cl (az_cB g ad (va_up V 10 u11)) _ := hP
  have hD : va_D A (az_cB g ad (va_up V 10 u11)) := hD
  rw [← Option.some.inj h]
  exact az_vret hx hb hr hlocks hK hP hD hS dX0_addHolder_12

def FX0_removeHolder (V : az_St) (x1 : Int32) (x2 : Int32) : Option ((Nat → Int32)) := if az_in x1 160 = true then az_lt (upd (V 10) x1.toNatClampNeg (((V 10) x1.toNatClampNeg) &&& (((1 : Int32) <<< (x2 &&& 31)) ^^^ (-1 : Int32)))) (fun u13 => some (u13)) else none
theorem inX0_removeHolder_RX0 : ∀ w ∈ wsX00, w ∈ wsX0_removeHolder := az_inr [2, 3, 4, 5, 6, 7] (by decide +kernel)
set_option maxHeartbeats 4000000 in
set_option maxRecDepth 100000 in
theorem kX0_removeHolder (l : Launch) (g : az_G) (ad : Nat → Nat) (V : az_St) (x1 : Int32) (x2 : Int32) (o : (Nat → Int32)) (h : FX0_removeHolder V x1 x2 = some o) : az_V l yX0_removeHolder wsX0_removeHolder ({ frames := 0, cells := 0, slots := 0, locals := 0 } : Room) [.ref (ad 6), .int x1, .int x2] g (az_cB g ad V) (az_cB g ad (va_up V 10 o)) := by
  refine az_body (cc := cX0_removeHolder) (maxL := 3) (ret := none) (Qc := fun A => az_QV g (az_cB g ad (va_up V 10 o)) A) (by decide +kernel) rfl (Nat.le_of_ble_eq_true rfl) ?_
  intro p e s m args below meth c A hx hb hr hts hown hml hlocks hA hK hP hD hS ls hl
  have hl : lv_has ls 3 [(0, .ref (ad 6)), (1, .int x1), (2, .int x2)] := hl
  unfold FX0_removeHolder at h
  refine lv_aload_n hx hb dX0_removeHolder_0 rfl (lv_at hl 0 rfl) ?_
  refine va_get (D := g.1) (ci := 0) (v := .ref (ad 12)) (C := RX0) (T := TX0) (N := 6) hx hb hts inX0_removeHolder_RX0 hown hK hP 0 rfl rfl 5 (Nat.le_of_ble_eq_true rfl) (hts _ (List.mem_of_getElem? (i := 1) rfl)) (fun _ h9 => h9) rfl dX0_removeHolder_1 ?_
  refine lv_iload_n hx hb dX0_removeHolder_4 rfl (lv_at hl 1 rfl) ?_
  refine lv_dup2_11 hx hb dX0_removeHolder_5 rfl rfl ?_
  obtain ⟨i6, h⟩ := az_ite h
  refine va_iald (D := g.1) (f := (V 10)) hx hb hK hP 6 0 rfl rfl (az_vin i6) dX0_removeHolder_6 ?_
  refine lv_iconst (v := (1 : Int32)) hx hb dX0_removeHolder_7 (by decide) ?_
  refine lv_iload_n hx hb dX0_removeHolder_8 rfl (lv_at hl 2 rfl) ?_
  refine lv_ishl hx hb dX0_removeHolder_9 ?_
  refine lv_iconst (v := (-1 : Int32)) hx hb dX0_removeHolder_10 (by decide) ?_
  refine lv_ixor hx hb dX0_removeHolder_11 ?_
  refine lv_iand hx hb dX0_removeHolder_12 ?_
  refine va_iast (D := g.1) (f := (V 10)) hx hb hK hP hD hS 6 0 rfl rfl (az_vin i6) dX0_removeHolder_13 (fun H locs hP hD hS => ?_)
  obtain ⟨u13, e13⟩ : ∃ w : Nat → Int32, w = upd (V 10) x1.toNatClampNeg (((V 10) x1.toNatClampNeg) &&& (((1 : Int32) <<< (x2 &&& 31)) ^^^ (-1 : Int32))) := ⟨_, rfl⟩
  have hP : va_P g.1 az_cl (az_cB g ad (va_up V 10 u13)) H := by rw [e13]; exact hP
  have hD : va_D A (az_cB g ad (va_up V 10 u13)) := by rw [e13]; exact hD
  replace h := az_let e13 h
  have hP : va_P g.1 az_cl (az_cB g ad (va_up V 10 u13)) _ := hP
  have hD : va_D A (az_cB g ad (va_up V 10 u13)) := hD
  rw [← Option.some.inj h]
  exact az_vret hx hb hr hlocks hK hP hD hS dX0_removeHolder_14

def FX0_heldBy_L4 : Nat → az_St → Int32 → Int32 → Int32 → Option (Int32)
  | 0, _, _, _, _ => none
  | n + 1, V, x1, y2, y3 => if (160 : Int32) ≤ y3 then (some (y2)) else ((FX0_isHeldBy V y3 x1).bind (fun o14 => if o14 = (0 : Int32) then (FX0_heldBy_L4 n V x1 y2 (y3 + (1 : Int32))) else (FX0_heldBy_L4 n V x1 (y2 + (1 : Int32)) (y3 + (1 : Int32)))))
theorem FX0_heldBy_L4_s (n : Nat) (V : az_St) (x1 : Int32) (y2 : Int32) (y3 : Int32) : FX0_heldBy_L4 (n + 1) V x1 y2 y3 = (if (160 : Int32) ≤ y3 then (some (y2)) else ((FX0_isHeldBy V y3 x1).bind (fun o14 => if o14 = (0 : Int32) then (FX0_heldBy_L4 n V x1 y2 (y3 + (1 : Int32))) else (FX0_heldBy_L4 n V x1 (y2 + (1 : Int32)) (y3 + (1 : Int32)))))) := rfl
def FX0_heldBy (V : az_St) (x1 : Int32) : Option (Int32) := FX0_heldBy_L4 az_fuel V x1 (0 : Int32) (0 : Int32)
set_option maxHeartbeats 4000000 in
set_option maxRecDepth 100000 in
theorem kX0_heldBy (l : Launch) (g : az_G) (ad : Nat → Nat) (V : az_St) (x1 : Int32) (o : Int32) (h : FX0_heldBy V x1 = some o) : az_I l yX0_heldBy wsX0_heldBy ({ frames := 1, cells := 0, slots := 0, locals := 22 } : Room) [.ref (ad 6), .int x1] g (az_cB g ad V) o (az_cB g ad V) := by
  refine az_body (cc := cX0_heldBy) (maxL := 4) (ret := (some .int)) (Qc := fun A => az_QI g (az_cB g ad V) o A) (by decide +kernel) rfl (Nat.le_of_ble_eq_true rfl) ?_
  intro p e s m args below meth c A hx hb hr hts hown hml hlocks hA hK hP hD hS ls hl
  have hl : lv_has ls 4 [(0, .ref (ad 6)), (1, .int x1)] := hl
  unfold FX0_heldBy at h
  have hL4 : ∀ (n : Nat) (y2 : Int32) (y3 : Int32) (H : Heap) (locs : List Loc) (ls : Array Slot), FX0_heldBy_L4 n V x1 y2 y3 = some o → va_P g.1 az_cl (az_cB g ad V) H → va_D A (az_cB g ad V) → va_S A s.heap H locs → lv_has ls 4 [(0, .ref (ad 6)), (1, .int x1), (2, .int y2), (3, .int y3)] → W p l e ({ frames := 1, cells := 0, slots := 0, locals := 22 } : Room) s m args below meth c H locs 0 0 (MQ below (az_QI g (az_cB g ad V) o A) args s 0 0 A) (F0 m 4 ls []) := by
    intro n
    induction n with
    | zero => intro y2 y3 H locs ls h; exact az_non h
    | succ n ih =>
      intro y2 y3 H locs ls h hP hD hS hl
      rw [FX0_heldBy_L4_s] at h
      refine lv_iload_n hx hb dX0_heldBy_4 rfl (lv_at hl 3 rfl) ?_
      refine lv_sipush (v := (160 : Int32)) hx hb dX0_heldBy_5 (by decide) ?_
      refine lv_icmp_ge (tgt := 29) hx hb dX0_heldBy_8 (by decide) (fun c8 => ?_) (fun c8 => ?_)
      · replace h := az_pos c8 h
        refine lv_iload_n hx hb dX0_heldBy_29 rfl (lv_at hl 2 rfl) ?_
        have hP : va_P g.1 az_cl (az_cB g ad V) _ := hP
        have hD : va_D A (az_cB g ad V) := hD
        rw [← Option.some.inj h]
        exact az_iret hx hb hr hlocks hK hP hD hS dX0_heldBy_30
      · replace h := az_neg c8 h
        refine lv_aload_n hx hb dX0_heldBy_11 rfl (lv_at hl 0 rfl) ?_
        refine lv_iload_n hx hb dX0_heldBy_12 rfl (lv_at hl 3 rfl) ?_
        refine lv_iload_n hx hb dX0_heldBy_13 rfl (lv_at hl 1 rfl) ?_
        obtain ⟨o14, hc14, h⟩ := az_bnd h
        refine az_callVi (w2 := az_cB g ad V) (As := [.int y3, .int x1]) (rest := []) ⟨hx, hb, hml, hown, hts⟩ hl.1 (kX0_isHeldBy l g ad V y3 x1 o14 hc14) (cwV 2 hts gX0_heldBy_X0_isHeldBy rfl rfl rfl (by decide +kernel) ⟨Nat.le_of_ble_eq_true rfl, Nat.le_of_ble_eq_true rfl⟩) rfl hK hP hD hS hA [0, 1, 2, 3, 4, 5, 6] [] [0, 1, 2, 3, 4, 5, 6] rfl rfl rfl rfl rfl (by decide) rfl rfl rfl 0 rfl rfl rfl (Nat.le_of_ble_eq_true rfl) dX0_heldBy_14 ⟨Nat.zero_le _, Nat.zero_le _⟩ rfl (fun H locs hP hD hS => ?_)
        refine lv_if_eq (tgt := 23) hx hb dX0_heldBy_17 (by decide) (fun c17 => ?_) (fun c17 => ?_)
        · replace h := az_pos c17 h
          refine lv_iinc (v := y3 + (1 : Int32)) (lv' := [(3, .int (y3 + (1 : Int32))), (0, .ref (ad 6)), (1, .int x1), (2, .int y2)]) hx hb dX0_heldBy_23 hl (k := 3) rfl (rfl) (by decide) rfl (fun ls hl => ?_)
          refine lv_goto (tgt := 4) hx hb dX0_heldBy_26 (by decide) ?_
          have hP : va_P g.1 az_cl (az_cB g ad V) _ := hP
          have hD : va_D A (az_cB g ad V) := hD
          exact ih y2 (y3 + (1 : Int32)) _ _ ls h hP hD hS (lv_sub hl [1, 2, 3, 0] rfl)
        · replace h := az_neg c17 h
          refine lv_iinc (v := y2 + (1 : Int32)) (lv' := [(2, .int (y2 + (1 : Int32))), (0, .ref (ad 6)), (1, .int x1), (3, .int y3)]) hx hb dX0_heldBy_20 hl (k := 2) rfl (rfl) (by decide) rfl (fun ls hl => ?_)
          refine lv_iinc (v := y3 + (1 : Int32)) (lv' := [(3, .int (y3 + (1 : Int32))), (2, .int (y2 + (1 : Int32))), (0, .ref (ad 6)), (1, .int x1)]) hx hb dX0_heldBy_23 hl (k := 3) rfl (rfl) (by decide) rfl (fun ls hl => ?_)
          refine lv_goto (tgt := 4) hx hb dX0_heldBy_26 (by decide) ?_
          have hP : va_P g.1 az_cl (az_cB g ad V) _ := hP
          have hD : va_D A (az_cB g ad V) := hD
          exact ih (y2 + (1 : Int32)) (y3 + (1 : Int32)) _ _ ls h hP hD hS (lv_sub hl [2, 3, 1, 0] rfl)
  refine lv_iconst (v := (0 : Int32)) hx hb dX0_heldBy_0 (by decide) ?_
  refine lv_istore_n (lv' := [(2, .int (0 : Int32)), (0, .ref (ad 6)), (1, .int x1)]) hx hb dX0_heldBy_1 rfl hl (by decide) rfl (fun ls hl => ?_)
  refine lv_iconst (v := (0 : Int32)) hx hb dX0_heldBy_2 (by decide) ?_
  refine lv_istore_n (lv' := [(3, .int (0 : Int32)), (2, .int (0 : Int32)), (0, .ref (ad 6)), (1, .int x1)]) hx hb dX0_heldBy_3 rfl hl (by decide) rfl (fun ls hl => ?_)
  have hP : va_P g.1 az_cl (az_cB g ad V) _ := hP
  have hD : va_D A (az_cB g ad V) := hD
  exact hL4 az_fuel (0 : Int32) (0 : Int32) _ _ ls h hP hD hS (lv_sub hl [2, 3, 1, 0] rfl)

def FX0_waitingHeldBy_L4 : Nat → az_St → Int32 → Int32 → Int32 → Option (Int32)
  | 0, _, _, _, _ => none
  | n + 1, V, x1, y2, y3 => if (160 : Int32) ≤ y3 then (some (y2)) else (if az_in y3 160 = true then if (V 5) y3.toNatClampNeg = (3 : Int32) then ((FX0_isHeldBy V y3 x1).bind (fun o24 => if o24 = (0 : Int32) then (FX0_waitingHeldBy_L4 n V x1 y2 (y3 + (1 : Int32))) else (FX0_waitingHeldBy_L4 n V x1 (y2 + (1 : Int32)) (y3 + (1 : Int32))))) else (FX0_waitingHeldBy_L4 n V x1 y2 (y3 + (1 : Int32))) else none)
theorem FX0_waitingHeldBy_L4_s (n : Nat) (V : az_St) (x1 : Int32) (y2 : Int32) (y3 : Int32) : FX0_waitingHeldBy_L4 (n + 1) V x1 y2 y3 = (if (160 : Int32) ≤ y3 then (some (y2)) else (if az_in y3 160 = true then if (V 5) y3.toNatClampNeg = (3 : Int32) then ((FX0_isHeldBy V y3 x1).bind (fun o24 => if o24 = (0 : Int32) then (FX0_waitingHeldBy_L4 n V x1 y2 (y3 + (1 : Int32))) else (FX0_waitingHeldBy_L4 n V x1 (y2 + (1 : Int32)) (y3 + (1 : Int32))))) else (FX0_waitingHeldBy_L4 n V x1 y2 (y3 + (1 : Int32))) else none)) := rfl
def FX0_waitingHeldBy (V : az_St) (x1 : Int32) : Option (Int32) := FX0_waitingHeldBy_L4 az_fuel V x1 (0 : Int32) (0 : Int32)
theorem inX0_waitingHeldBy_RX0 : ∀ w ∈ wsX00, w ∈ wsX0_waitingHeldBy := az_inr [8, 9, 10, 11, 12, 13] (by decide +kernel)
set_option maxHeartbeats 4000000 in
set_option maxRecDepth 100000 in
theorem kX0_waitingHeldBy (l : Launch) (g : az_G) (ad : Nat → Nat) (V : az_St) (x1 : Int32) (o : Int32) (h : FX0_waitingHeldBy V x1 = some o) : az_I l yX0_waitingHeldBy wsX0_waitingHeldBy ({ frames := 1, cells := 0, slots := 0, locals := 22 } : Room) [.ref (ad 6), .int x1] g (az_cB g ad V) o (az_cB g ad V) := by
  refine az_body (cc := cX0_waitingHeldBy) (maxL := 4) (ret := (some .int)) (Qc := fun A => az_QI g (az_cB g ad V) o A) (by decide +kernel) rfl (Nat.le_of_ble_eq_true rfl) ?_
  intro p e s m args below meth c A hx hb hr hts hown hml hlocks hA hK hP hD hS ls hl
  have hl : lv_has ls 4 [(0, .ref (ad 6)), (1, .int x1)] := hl
  unfold FX0_waitingHeldBy at h
  have hL4 : ∀ (n : Nat) (y2 : Int32) (y3 : Int32) (H : Heap) (locs : List Loc) (ls : Array Slot), FX0_waitingHeldBy_L4 n V x1 y2 y3 = some o → va_P g.1 az_cl (az_cB g ad V) H → va_D A (az_cB g ad V) → va_S A s.heap H locs → lv_has ls 4 [(0, .ref (ad 6)), (1, .int x1), (2, .int y2), (3, .int y3)] → W p l e ({ frames := 1, cells := 0, slots := 0, locals := 22 } : Room) s m args below meth c H locs 0 0 (MQ below (az_QI g (az_cB g ad V) o A) args s 0 0 A) (F0 m 4 ls []) := by
    intro n
    induction n with
    | zero => intro y2 y3 H locs ls h; exact az_non h
    | succ n ih =>
      intro y2 y3 H locs ls h hP hD hS hl
      rw [FX0_waitingHeldBy_L4_s] at h
      refine lv_iload_n hx hb dX0_waitingHeldBy_4 rfl (lv_at hl 3 rfl) ?_
      refine lv_sipush (v := (160 : Int32)) hx hb dX0_waitingHeldBy_5 (by decide) ?_
      refine lv_icmp_ge (tgt := 39) hx hb dX0_waitingHeldBy_8 (by decide) (fun c8 => ?_) (fun c8 => ?_)
      · replace h := az_pos c8 h
        refine lv_iload_n hx hb dX0_waitingHeldBy_39 rfl (lv_at hl 2 rfl) ?_
        have hP : va_P g.1 az_cl (az_cB g ad V) _ := hP
        have hD : va_D A (az_cB g ad V) := hD
        rw [← Option.some.inj h]
        exact az_iret hx hb hr hlocks hK hP hD hS dX0_waitingHeldBy_40
      · replace h := az_neg c8 h
        refine lv_aload_n hx hb dX0_waitingHeldBy_11 rfl (lv_at hl 0 rfl) ?_
        refine va_get (D := g.1) (ci := 0) (v := .ref (ad 7)) (C := RX0) (T := TX0) (N := 6) hx hb hts inX0_waitingHeldBy_RX0 hown hK hP 0 rfl rfl 0 (Nat.le_of_ble_eq_true rfl) (hts _ (List.mem_of_getElem? (i := 1) rfl)) (fun _ h9 => h9) rfl dX0_waitingHeldBy_12 ?_
        refine lv_iload_n hx hb dX0_waitingHeldBy_15 rfl (lv_at hl 3 rfl) ?_
        obtain ⟨i16, h⟩ := az_ite h
        refine va_iald (D := g.1) (f := (V 5)) hx hb hK hP 1 0 rfl rfl (az_vin i16) dX0_waitingHeldBy_16 ?_
        refine lv_iconst (v := (3 : Int32)) hx hb dX0_waitingHeldBy_17 (by decide) ?_
        refine lv_icmp_ne (tgt := 33) hx hb dX0_waitingHeldBy_18 (by decide) (fun c18 => ?_) (fun c18 => ?_)
        · replace h := az_neg c18 h
          refine lv_iinc (v := y3 + (1 : Int32)) (lv' := [(3, .int (y3 + (1 : Int32))), (0, .ref (ad 6)), (1, .int x1), (2, .int y2)]) hx hb dX0_waitingHeldBy_33 hl (k := 3) rfl (rfl) (by decide) rfl (fun ls hl => ?_)
          refine lv_goto (tgt := 4) hx hb dX0_waitingHeldBy_36 (by decide) ?_
          have hP : va_P g.1 az_cl (az_cB g ad V) _ := hP
          have hD : va_D A (az_cB g ad V) := hD
          exact ih y2 (y3 + (1 : Int32)) _ _ ls h hP hD hS (lv_sub hl [1, 2, 3, 0] rfl)
        · replace h := az_pos c18 h
          refine lv_aload_n hx hb dX0_waitingHeldBy_21 rfl (lv_at hl 0 rfl) ?_
          refine lv_iload_n hx hb dX0_waitingHeldBy_22 rfl (lv_at hl 3 rfl) ?_
          refine lv_iload_n hx hb dX0_waitingHeldBy_23 rfl (lv_at hl 1 rfl) ?_
          obtain ⟨o24, hc24, h⟩ := az_bnd h
          refine az_callVi (w2 := az_cB g ad V) (As := [.int y3, .int x1]) (rest := []) ⟨hx, hb, hml, hown, hts⟩ hl.1 (kX0_isHeldBy l g ad V y3 x1 o24 hc24) (cwV 2 hts gX0_waitingHeldBy_X0_isHeldBy rfl rfl rfl (by decide +kernel) ⟨Nat.le_of_ble_eq_true rfl, Nat.le_of_ble_eq_true rfl⟩) rfl hK hP hD hS hA [0, 1, 2, 3, 4, 5, 6] [] [0, 1, 2, 3, 4, 5, 6] rfl rfl rfl rfl rfl (by decide) rfl rfl rfl 0 rfl rfl rfl (Nat.le_of_ble_eq_true rfl) dX0_waitingHeldBy_24 ⟨Nat.zero_le _, Nat.zero_le _⟩ rfl (fun H locs hP hD hS => ?_)
          refine lv_if_eq (tgt := 33) hx hb dX0_waitingHeldBy_27 (by decide) (fun c27 => ?_) (fun c27 => ?_)
          · replace h := az_pos c27 h
            refine lv_iinc (v := y3 + (1 : Int32)) (lv' := [(3, .int (y3 + (1 : Int32))), (0, .ref (ad 6)), (1, .int x1), (2, .int y2)]) hx hb dX0_waitingHeldBy_33 hl (k := 3) rfl (rfl) (by decide) rfl (fun ls hl => ?_)
            refine lv_goto (tgt := 4) hx hb dX0_waitingHeldBy_36 (by decide) ?_
            have hP : va_P g.1 az_cl (az_cB g ad V) _ := hP
            have hD : va_D A (az_cB g ad V) := hD
            exact ih y2 (y3 + (1 : Int32)) _ _ ls h hP hD hS (lv_sub hl [1, 2, 3, 0] rfl)
          · replace h := az_neg c27 h
            refine lv_iinc (v := y2 + (1 : Int32)) (lv' := [(2, .int (y2 + (1 : Int32))), (0, .ref (ad 6)), (1, .int x1), (3, .int y3)]) hx hb dX0_waitingHeldBy_30 hl (k := 2) rfl (rfl) (by decide) rfl (fun ls hl => ?_)
            refine lv_iinc (v := y3 + (1 : Int32)) (lv' := [(3, .int (y3 + (1 : Int32))), (2, .int (y2 + (1 : Int32))), (0, .ref (ad 6)), (1, .int x1)]) hx hb dX0_waitingHeldBy_33 hl (k := 3) rfl (rfl) (by decide) rfl (fun ls hl => ?_)
            refine lv_goto (tgt := 4) hx hb dX0_waitingHeldBy_36 (by decide) ?_
            have hP : va_P g.1 az_cl (az_cB g ad V) _ := hP
            have hD : va_D A (az_cB g ad V) := hD
            exact ih (y2 + (1 : Int32)) (y3 + (1 : Int32)) _ _ ls h hP hD hS (lv_sub hl [2, 3, 1, 0] rfl)
  refine lv_iconst (v := (0 : Int32)) hx hb dX0_waitingHeldBy_0 (by decide) ?_
  refine lv_istore_n (lv' := [(2, .int (0 : Int32)), (0, .ref (ad 6)), (1, .int x1)]) hx hb dX0_waitingHeldBy_1 rfl hl (by decide) rfl (fun ls hl => ?_)
  refine lv_iconst (v := (0 : Int32)) hx hb dX0_waitingHeldBy_2 (by decide) ?_
  refine lv_istore_n (lv' := [(3, .int (0 : Int32)), (2, .int (0 : Int32)), (0, .ref (ad 6)), (1, .int x1)]) hx hb dX0_waitingHeldBy_3 rfl hl (by decide) rfl (fun ls hl => ?_)
  have hP : va_P g.1 az_cl (az_cB g ad V) _ := hP
  have hD : va_D A (az_cB g ad V) := hD
  exact hL4 az_fuel (0 : Int32) (0 : Int32) _ _ ls h hP hD hS (lv_sub hl [2, 3, 1, 0] rfl)

def FX0_releaseAll_L8 : Nat → az_St → Int32 → (Nat → Int32) → Int32 → Int32 → Option (Int32 × (Nat → Int32))
  | 0, _, _, _, _, _ => none
  | n + 1, V, x1, wV10, y2, y3 => if (160 : Int32) ≤ y3 then (some (y2, wV10)) else ((FX0_removeHolder (va_up V 10 wV10) y3 x1).bind (fun o18 => FX0_releaseAll_L8 n V x1 o18 y2 (y3 + (1 : Int32))))
theorem FX0_releaseAll_L8_s (n : Nat) (V : az_St) (x1 : Int32) (wV10 : Nat → Int32) (y2 : Int32) (y3 : Int32) : FX0_releaseAll_L8 (n + 1) V x1 wV10 y2 y3 = (if (160 : Int32) ≤ y3 then (some (y2, wV10)) else ((FX0_removeHolder (va_up V 10 wV10) y3 x1).bind (fun o18 => FX0_releaseAll_L8 n V x1 o18 y2 (y3 + (1 : Int32))))) := rfl
def FX0_releaseAll (V : az_St) (x1 : Int32) : Option (Int32 × (Nat → Int32)) := (FX0_heldBy V x1).bind (fun o2 => FX0_releaseAll_L8 az_fuel V x1 (V 10) o2 (0 : Int32))
set_option maxHeartbeats 4000000 in
set_option maxRecDepth 100000 in
theorem kX0_releaseAll (l : Launch) (g : az_G) (ad : Nat → Nat) (V : az_St) (x1 : Int32) (o : Int32 × (Nat → Int32)) (h : FX0_releaseAll V x1 = some o) : az_I l yX0_releaseAll wsX0_releaseAll ({ frames := 2, cells := 0, slots := 0, locals := 45 } : Room) [.ref (ad 6), .int x1] g (az_cB g ad V) o.1 (az_cB g ad (va_up V 10 o.2)) := by
  refine az_body (cc := cX0_releaseAll) (maxL := 4) (ret := (some .int)) (Qc := fun A => az_QI g (az_cB g ad (va_up V 10 o.2)) o.1 A) (by decide +kernel) rfl (Nat.le_of_ble_eq_true rfl) ?_
  intro p e s m args below meth c A hx hb hr hts hown hml hlocks hA hK hP hD hS ls hl
  have hl : lv_has ls 4 [(0, .ref (ad 6)), (1, .int x1)] := hl
  unfold FX0_releaseAll at h
  have hL8 : ∀ (n : Nat) (wV10 : Nat → Int32) (y2 : Int32) (y3 : Int32) (H : Heap) (locs : List Loc) (ls : Array Slot), FX0_releaseAll_L8 n V x1 wV10 y2 y3 = some o → va_P g.1 az_cl (az_cB g ad (va_up V 10 wV10)) H → va_D A (az_cB g ad (va_up V 10 wV10)) → va_S A s.heap H locs → lv_has ls 4 [(0, .ref (ad 6)), (1, .int x1), (2, .int y2), (3, .int y3)] → W p l e ({ frames := 2, cells := 0, slots := 0, locals := 45 } : Room) s m args below meth c H locs 0 0 (MQ below (az_QI g (az_cB g ad (va_up V 10 o.2)) o.1 A) args s 0 0 A) (F0 m 8 ls []) := by
    intro n
    induction n with
    | zero => intro wV10 y2 y3 H locs ls h; exact az_non h
    | succ n ih =>
      intro wV10 y2 y3 H locs ls h hP hD hS hl
      rw [FX0_releaseAll_L8_s] at h
      refine lv_iload_n hx hb dX0_releaseAll_8 rfl (lv_at hl 3 rfl) ?_
      refine lv_sipush (v := (160 : Int32)) hx hb dX0_releaseAll_9 (by decide) ?_
      refine lv_icmp_ge (tgt := 27) hx hb dX0_releaseAll_12 (by decide) (fun c12 => ?_) (fun c12 => ?_)
      · replace h := az_pos c12 h
        refine lv_iload_n hx hb dX0_releaseAll_27 rfl (lv_at hl 2 rfl) ?_
        have hP : va_P g.1 az_cl (az_cB g ad (va_up V 10 wV10)) _ := hP
        have hD : va_D A (az_cB g ad (va_up V 10 wV10)) := hD
        rw [← Option.some.inj h]
        exact az_iret hx hb hr hlocks hK hP hD hS dX0_releaseAll_28
      · replace h := az_neg c12 h
        refine lv_aload_n hx hb dX0_releaseAll_15 rfl (lv_at hl 0 rfl) ?_
        refine lv_iload_n hx hb dX0_releaseAll_16 rfl (lv_at hl 3 rfl) ?_
        refine lv_iload_n hx hb dX0_releaseAll_17 rfl (lv_at hl 1 rfl) ?_
        obtain ⟨o18, hc18, h⟩ := az_bnd h
        refine az_callVv (w2 := az_cB g ad (va_up V 10 o18)) (As := [.int y3, .int x1]) (rest := []) ⟨hx, hb, hml, hown, hts⟩ hl.1 (kX0_removeHolder l g ad (va_up V 10 wV10) y3 x1 o18 hc18) (cwV 2 hts gX0_releaseAll_X0_removeHolder rfl rfl rfl (by decide +kernel) ⟨Nat.le_of_ble_eq_true rfl, Nat.le_of_ble_eq_true rfl⟩) rfl hK hP hD hS hA [0, 1, 2, 3, 4, 5, 6] [] [0, 1, 2, 3, 4, 5, 6] rfl rfl rfl rfl rfl (by decide) rfl rfl rfl 0 rfl rfl rfl (Nat.le_of_ble_eq_true rfl) dX0_releaseAll_18 ⟨Nat.zero_le _, Nat.zero_le _⟩ rfl (fun H locs hP hD hS => ?_)
        refine lv_iinc (v := y3 + (1 : Int32)) (lv' := [(3, .int (y3 + (1 : Int32))), (0, .ref (ad 6)), (1, .int x1), (2, .int y2)]) hx hb dX0_releaseAll_21 hl (k := 3) rfl (rfl) (by decide) rfl (fun ls hl => ?_)
        refine lv_goto (tgt := 8) hx hb dX0_releaseAll_24 (by decide) ?_
        have hP : va_P g.1 az_cl (az_cB g ad (va_up V 10 o18)) _ := hP
        have hD : va_D A (az_cB g ad (va_up V 10 o18)) := hD
        exact ih o18 y2 (y3 + (1 : Int32)) _ _ ls h hP hD hS (lv_sub hl [1, 2, 3, 0] rfl)
  refine lv_aload_n hx hb dX0_releaseAll_0 rfl (lv_at hl 0 rfl) ?_
  refine lv_iload_n hx hb dX0_releaseAll_1 rfl (lv_at hl 1 rfl) ?_
  obtain ⟨o2, hc2, h⟩ := az_bnd h
  refine az_callVi (w2 := az_cB g ad V) (As := [.int x1]) (rest := []) ⟨hx, hb, hml, hown, hts⟩ hl.1 (kX0_heldBy l g ad V x1 o2 hc2) (cwV 1 hts gX0_releaseAll_X0_heldBy rfl rfl rfl (by decide +kernel) ⟨Nat.le_of_ble_eq_true rfl, Nat.le_of_ble_eq_true rfl⟩) rfl hK hP hD hS hA [0, 1, 2, 3, 4, 5, 6] [] [0, 1, 2, 3, 4, 5, 6] rfl rfl rfl rfl rfl (by decide) rfl rfl rfl 0 rfl rfl rfl (Nat.le_of_ble_eq_true rfl) dX0_releaseAll_2 ⟨Nat.zero_le _, Nat.zero_le _⟩ rfl (fun H locs hP hD hS => ?_)
  refine lv_istore_n (lv' := [(2, .int o2), (0, .ref (ad 6)), (1, .int x1)]) hx hb dX0_releaseAll_5 rfl hl (by decide) rfl (fun ls hl => ?_)
  refine lv_iconst (v := (0 : Int32)) hx hb dX0_releaseAll_6 (by decide) ?_
  refine lv_istore_n (lv' := [(3, .int (0 : Int32)), (2, .int o2), (0, .ref (ad 6)), (1, .int x1)]) hx hb dX0_releaseAll_7 rfl hl (by decide) rfl (fun ls hl => ?_)
  have hP : va_P g.1 az_cl (az_cB g ad (va_up V 10 (V 10))) _ := hP
  have hD : va_D A (az_cB g ad (va_up V 10 (V 10))) := hD
  exact hL8 az_fuel (V 10) o2 (0 : Int32) _ _ ls h hP hD hS (lv_sub hl [2, 3, 1, 0] rfl)
