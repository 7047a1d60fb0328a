/-! 30.model1: printed by wip/whole/gen.py out of the printed instructions -/
def FX7_begins_L3 : Nat → az_St → Int32 → Int32 → Int32 → (Nat → Int32) → Int32 → Option ((Nat → Int32))
  | 0, _, _, _, _, _, _ => none
  | n + 1, V, x1, x2, x3, wV0, y4 => if (1036 : Int32) ≤ y4 then (az_lt (upd wV0 (0 : Int32).toNatClampNeg x1) (fun u81 => az_lt (upd u81 (1 : Int32).toNatClampNeg x2) (fun u88 => az_lt (upd u88 (2 : Int32).toNatClampNeg x3) (fun u95 => some (u95))))) else (if y4 < (840 : Int32) then (if y4 < (868 : Int32) then (if y4 = (8 : Int32) then (if az_in y4 1036 = true then az_lt (upd wV0 y4.toNatClampNeg (-1 : Int32)) (fun u68 => FX7_begins_L3 n V x1 x2 x3 u68 (y4 + (1 : Int32))) else none) else (if y4 = (9 : Int32) then (if az_in y4 1036 = true then az_lt (upd wV0 y4.toNatClampNeg (-1 : Int32)) (fun u68 => FX7_begins_L3 n V x1 x2 x3 u68 (y4 + (1 : Int32))) else none) else (if az_in y4 1036 = true then az_lt (upd wV0 y4.toNatClampNeg (0 : Int32)) (fun u68 => FX7_begins_L3 n V x1 x2 x3 u68 (y4 + (1 : Int32))) else none))) else (if y4 < (964 : Int32) then (if az_in y4 1036 = true then az_lt (upd wV0 y4.toNatClampNeg (-1 : Int32)) (fun u68 => FX7_begins_L3 n V x1 x2 x3 u68 (y4 + (1 : Int32))) else none) else (if y4 = (8 : Int32) then (if az_in y4 1036 = true then az_lt (upd wV0 y4.toNatClampNeg (-1 : Int32)) (fun u68 => FX7_begins_L3 n V x1 x2 x3 u68 (y4 + (1 : Int32))) else none) else (if y4 = (9 : Int32) then (if az_in y4 1036 = true then az_lt (upd wV0 y4.toNatClampNeg (-1 : Int32)) (fun u68 => FX7_begins_L3 n V x1 x2 x3 u68 (y4 + (1 : Int32))) else none) else (if az_in y4 1036 = true then az_lt (upd wV0 y4.toNatClampNeg (0 : Int32)) (fun u68 => FX7_begins_L3 n V x1 x2 x3 u68 (y4 + (1 : Int32))) else none))))) else (if y4 < (864 : Int32) then (if az_in y4 1036 = true then az_lt (upd wV0 y4.toNatClampNeg (-1 : Int32)) (fun u68 => FX7_begins_L3 n V x1 x2 x3 u68 (y4 + (1 : Int32))) else none) else (if y4 < (868 : Int32) then (if y4 = (8 : Int32) then (if az_in y4 1036 = true then az_lt (upd wV0 y4.toNatClampNeg (-1 : Int32)) (fun u68 => FX7_begins_L3 n V x1 x2 x3 u68 (y4 + (1 : Int32))) else none) else (if y4 = (9 : Int32) then (if az_in y4 1036 = true then az_lt (upd wV0 y4.toNatClampNeg (-1 : Int32)) (fun u68 => FX7_begins_L3 n V x1 x2 x3 u68 (y4 + (1 : Int32))) else none) else (if az_in y4 1036 = true then az_lt (upd wV0 y4.toNatClampNeg (0 : Int32)) (fun u68 => FX7_begins_L3 n V x1 x2 x3 u68 (y4 + (1 : Int32))) else none))) else (if y4 < (964 : Int32) then (if az_in y4 1036 = true then az_lt (upd wV0 y4.toNatClampNeg (-1 : Int32)) (fun u68 => FX7_begins_L3 n V x1 x2 x3 u68 (y4 + (1 : Int32))) else none) else (if y4 = (8 : Int32) then (if az_in y4 1036 = true then az_lt (upd wV0 y4.toNatClampNeg (-1 : Int32)) (fun u68 => FX7_begins_L3 n V x1 x2 x3 u68 (y4 + (1 : Int32))) else none) else (if y4 = (9 : Int32) then (if az_in y4 1036 = true then az_lt (upd wV0 y4.toNatClampNeg (-1 : Int32)) (fun u68 => FX7_begins_L3 n V x1 x2 x3 u68 (y4 + (1 : Int32))) else none) else (if az_in y4 1036 = true then az_lt (upd wV0 y4.toNatClampNeg (0 : Int32)) (fun u68 => FX7_begins_L3 n V x1 x2 x3 u68 (y4 + (1 : Int32))) else none)))))))
theorem FX7_begins_L3_s (n : Nat) (V : az_St) (x1 : Int32) (x2 : Int32) (x3 : Int32) (wV0 : Nat → Int32) (y4 : Int32) : FX7_begins_L3 (n + 1) V x1 x2 x3 wV0 y4 = (if (1036 : Int32) ≤ y4 then (az_lt (upd wV0 (0 : Int32).toNatClampNeg x1) (fun u81 => az_lt (upd u81 (1 : Int32).toNatClampNeg x2) (fun u88 => az_lt (upd u88 (2 : Int32).toNatClampNeg x3) (fun u95 => some (u95))))) else (if y4 < (840 : Int32) then (if y4 < (868 : Int32) then (if y4 = (8 : Int32) then (if az_in y4 1036 = true then az_lt (upd wV0 y4.toNatClampNeg (-1 : Int32)) (fun u68 => FX7_begins_L3 n V x1 x2 x3 u68 (y4 + (1 : Int32))) else none) else (if y4 = (9 : Int32) then (if az_in y4 1036 = true then az_lt (upd wV0 y4.toNatClampNeg (-1 : Int32)) (fun u68 => FX7_begins_L3 n V x1 x2 x3 u68 (y4 + (1 : Int32))) else none) else (if az_in y4 1036 = true then az_lt (upd wV0 y4.toNatClampNeg (0 : Int32)) (fun u68 => FX7_begins_L3 n V x1 x2 x3 u68 (y4 + (1 : Int32))) else none))) else (if y4 < (964 : Int32) then (if az_in y4 1036 = true then az_lt (upd wV0 y4.toNatClampNeg (-1 : Int32)) (fun u68 => FX7_begins_L3 n V x1 x2 x3 u68 (y4 + (1 : Int32))) else none) else (if y4 = (8 : Int32) then (if az_in y4 1036 = true then az_lt (upd wV0 y4.toNatClampNeg (-1 : Int32)) (fun u68 => FX7_begins_L3 n V x1 x2 x3 u68 (y4 + (1 : Int32))) else none) else (if y4 = (9 : Int32) then (if az_in y4 1036 = true then az_lt (upd wV0 y4.toNatClampNeg (-1 : Int32)) (fun u68 => FX7_begins_L3 n V x1 x2 x3 u68 (y4 + (1 : Int32))) else none) else (if az_in y4 1036 = true then az_lt (upd wV0 y4.toNatClampNeg (0 : Int32)) (fun u68 => FX7_begins_L3 n V x1 x2 x3 u68 (y4 + (1 : Int32))) else none))))) else (if y4 < (864 : Int32) then (if az_in y4 1036 = true then az_lt (upd wV0 y4.toNatClampNeg (-1 : Int32)) (fun u68 => FX7_begins_L3 n V x1 x2 x3 u68 (y4 + (1 : Int32))) else none) else (if y4 < (868 : Int32) then (if y4 = (8 : Int32) then (if az_in y4 1036 = true then az_lt (upd wV0 y4.toNatClampNeg (-1 : Int32)) (fun u68 => FX7_begins_L3 n V x1 x2 x3 u68 (y4 + (1 : Int32))) else none) else (if y4 = (9 : Int32) then (if az_in y4 1036 = true then az_lt (upd wV0 y4.toNatClampNeg (-1 : Int32)) (fun u68 => FX7_begins_L3 n V x1 x2 x3 u68 (y4 + (1 : Int32))) else none) else (if az_in y4 1036 = true then az_lt (upd wV0 y4.toNatClampNeg (0 : Int32)) (fun u68 => FX7_begins_L3 n V x1 x2 x3 u68 (y4 + (1 : Int32))) else none))) else (if y4 < (964 : Int32) then (if az_in y4 1036 = true then az_lt (upd wV0 y4.toNatClampNeg (-1 : Int32)) (fun u68 => FX7_begins_L3 n V x1 x2 x3 u68 (y4 + (1 : Int32))) else none) else (if y4 = (8 : Int32) then (if az_in y4 1036 = true then az_lt (upd wV0 y4.toNatClampNeg (-1 : Int32)) (fun u68 => FX7_begins_L3 n V x1 x2 x3 u68 (y4 + (1 : Int32))) else none) else (if y4 = (9 : Int32) then (if az_in y4 1036 = true then az_lt (upd wV0 y4.toNatClampNeg (-1 : Int32)) (fun u68 => FX7_begins_L3 n V x1 x2 x3 u68 (y4 + (1 : Int32))) else none) else (if az_in y4 1036 = true then az_lt (upd wV0 y4.toNatClampNeg (0 : Int32)) (fun u68 => FX7_begins_L3 n V x1 x2 x3 u68 (y4 + (1 : Int32))) else none)))))))) := rfl
def FX7_begins (V : az_St) (x1 : Int32) (x2 : Int32) (x3 : Int32) : Option ((Nat → Int32)) := FX7_begins_L3 az_fuel V x1 x2 x3 (V 0) (0 : Int32)
theorem inX7_begins_RX7 : ∀ w ∈ wsX70, w ∈ wsX7_begins := az_inr [2, 3, 4, 5, 6] (by decide +kernel)
set_option maxHeartbeats 4000000 in
set_option maxRecDepth 100000 in
theorem kX7_begins (l : Launch) (g : az_G) (ad : Nat → Nat) (V : az_St) (x1 : Int32) (x2 : Int32) (x3 : Int32) (o : (Nat → Int32)) (h : FX7_begins V x1 x2 x3 = some o) : az_V l yX7_begins wsX7_begins ({ frames := 0, cells := 0, slots := 0, locals := 0 } : Room) [.ref (ad 0), .int x1, .int x2, .int x3] g (az_cM g ad V) (az_cM g ad (va_up V 0 o)) := by
  refine az_body (cc := cX7_begins) (maxL := 5) (ret := none) (Qc := fun A => az_QV g (az_cM g ad (va_up V 0 o)) A) (by decide +kernel) rfl (Nat.le_of_ble_eq_true rfl) ?_
  intro p e s m args below meth c A hx hb hr hts hown hml hlocks hA hK hP hD hS ls hl
  have hl : lv_has ls 5 [(0, .ref (ad 0)), (1, .int x1), (2, .int x2), (3, .int x3)] := hl
  unfold FX7_begins at h
  have hL3 : ∀ (n : Nat) (wV0 : Nat → Int32) (y4 : Int32) (H : Heap) (locs : List Loc) (ls : Array Slot), FX7_begins_L3 n V x1 x2 x3 wV0 y4 = some o → va_P g.1 az_cl (az_cM g ad (va_up V 0 wV0)) H → va_D A (az_cM g ad (va_up V 0 wV0)) → va_S A s.heap H locs → lv_has ls 5 [(0, .ref (ad 0)), (1, .int x1), (2, .int x2), (3, .int x3), (4, .int y4)] → W p l e ({ frames := 0, cells := 0, slots := 0, locals := 0 } : Room) s m args below meth c H locs 0 0 (MQ below (az_QV g (az_cM g ad (va_up V 0 o)) A) args s 0 0 A) (F0 m 3 ls []) := by
    intro n
    induction n with
    | zero => intro wV0 y4 H locs ls h; exact az_non h
    | succ n ih =>
      intro wV0 y4 H locs ls h hP hD hS hl
      rw [FX7_begins_L3_s] at h
      refine lv_iload hx hb dX7_begins_3 (lv_at hl 4 rfl) ?_
      refine lv_sipush (v := (1036 : Int32)) hx hb dX7_begins_5 (by decide) ?_
      refine lv_icmp_ge (tgt := 75) hx hb dX7_begins_8 (by decide) (fun c8 => ?_) (fun c8 => ?_)
      · replace h := az_pos c8 h
        refine lv_aload_n hx hb dX7_begins_75 rfl (lv_at hl 0 rfl) ?_
        refine va_get (D := g.1) (ci := 7) (v := .ref (ad 1)) (C := RX7) (T := TX7) (N := 5) hx hb hts inX7_begins_RX7 hown hK hP 0 rfl rfl 0 (Nat.le_of_ble_eq_true rfl) (hts _ (List.mem_of_getElem? (i := 1) rfl)) (fun _ h9 => h9) rfl dX7_begins_76 ?_
        refine lv_iconst (v := (0 : Int32)) hx hb dX7_begins_79 (by decide) ?_
        refine lv_iload_n hx hb dX7_begins_80 rfl (lv_at hl 1 rfl) ?_
        refine va_iast (D := g.1) (f := wV0) hx hb hK hP hD hS 1 0 rfl rfl (az_vin (by decide +kernel)) dX7_begins_81 (fun H locs hP hD hS => ?_)
        obtain ⟨u81, e81⟩ : ∃ w : Nat → Int32, w = upd wV0 (0 : Int32).toNatClampNeg x1 := ⟨_, rfl⟩
        have hP : va_P g.1 az_cl (az_cM g ad (va_up V 0 u81)) H := by rw [e81]; exact hP
        have hD : va_D A (az_cM g ad (va_up V 0 u81)) := by rw [e81]; exact hD
        replace h := az_let e81 h
        refine lv_aload_n hx hb dX7_begins_82 rfl (lv_at hl 0 rfl) ?_
        refine va_get (D := g.1) (ci := 7) (v := .ref (ad 1)) (C := RX7) (T := TX7) (N := 5) hx hb hts inX7_begins_RX7 hown hK hP 0 rfl rfl 0 (Nat.le_of_ble_eq_true rfl) (hts _ (List.mem_of_getElem? (i := 1) rfl)) (fun _ h9 => h9) rfl dX7_begins_83 ?_
        refine lv_iconst (v := (1 : Int32)) hx hb dX7_begins_86 (by decide) ?_
        refine lv_iload_n hx hb dX7_begins_87 rfl (lv_at hl 2 rfl) ?_
        refine va_iast (D := g.1) (f := u81) hx hb hK hP hD hS 1 0 rfl rfl (az_vin (by decide +kernel)) dX7_begins_88 (fun H locs hP hD hS => ?_)
        obtain ⟨u88, e88⟩ : ∃ w : Nat → Int32, w = upd u81 (1 : Int32).toNatClampNeg x2 := ⟨_, rfl⟩
        have hP : va_P g.1 az_cl (az_cM g ad (va_up V 0 u88)) H := by rw [e88]; exact hP
        have hD : va_D A (az_cM g ad (va_up V 0 u88)) := by rw [e88]; exact hD
        replace h := az_let e88 h
        refine lv_aload_n hx hb dX7_begins_89 rfl (lv_at hl 0 rfl) ?_
        refine va_get (D := g.1) (ci := 7) (v := .ref (ad 1)) (C := RX7) (T := TX7) (N := 5) hx hb hts inX7_begins_RX7 hown hK hP 0 rfl rfl 0 (Nat.le_of_ble_eq_true rfl) (hts _ (List.mem_of_getElem? (i := 1) rfl)) (fun _ h9 => h9) rfl dX7_begins_90 ?_
        refine lv_iconst (v := (2 : Int32)) hx hb dX7_begins_93 (by decide) ?_
        refine lv_iload_n hx hb dX7_begins_94 rfl (lv_at hl 3 rfl) ?_
        refine va_iast (D := g.1) (f := u88) hx hb hK hP hD hS 1 0 rfl rfl (az_vin (by decide +kernel)) dX7_begins_95 (fun H locs hP hD hS => ?_)
        obtain ⟨u95, e95⟩ : ∃ w : Nat → Int32, w = upd u88 (2 : Int32).toNatClampNeg x3 := ⟨_, rfl⟩
        have hP : va_P g.1 az_cl (az_cM g ad (va_up V 0 u95)) H := by rw [e95]; exact hP
        have hD : va_D A (az_cM g ad (va_up V 0 u95)) := by rw [e95]; exact hD
        replace h := az_let e95 h
        have hP : va_P g.1 az_cl (az_cM g ad (va_up V 0 u95)) _ := hP
        have hD : va_D A (az_cM g ad (va_up V 0 u95)) := hD
        rw [← Option.some.inj h]
        exact az_vret hx hb hr hlocks hK hP hD hS dX7_begins_96
      · replace h := az_neg c8 h
        refine lv_aload_n hx hb dX7_begins_11 rfl (lv_at hl 0 rfl) ?_
        refine va_get (D := g.1) (ci := 7) (v := .ref (ad 1)) (C := RX7) (T := TX7) (N := 5) hx hb hts inX7_begins_RX7 hown hK hP 0 rfl rfl 0 (Nat.le_of_ble_eq_true rfl) (hts _ (List.mem_of_getElem? (i := 1) rfl)) (fun _ h9 => h9) rfl dX7_begins_12 ?_
        refine lv_iload hx hb dX7_begins_15 (lv_at hl 4 rfl) ?_
        refine lv_iload hx hb dX7_begins_17 (lv_at hl 4 rfl) ?_
        refine lv_sipush (v := (840 : Int32)) hx hb dX7_begins_19 (by decide) ?_
        refine lv_icmp_lt (tgt := 33) hx hb dX7_begins_22 (by decide) (fun c22 => ?_) (fun c22 => ?_)
        · replace h := az_pos c22 h
          refine lv_iload hx hb dX7_begins_33 (lv_at hl 4 rfl) ?_
          refine lv_sipush (v := (868 : Int32)) hx hb dX7_begins_35 (by decide) ?_
          refine lv_icmp_lt (tgt := 49) hx hb dX7_begins_38 (by decide) (fun c38 => ?_) (fun c38 => ?_)
          · replace h := az_pos c38 h
            refine lv_iload hx hb dX7_begins_49 (lv_at hl 4 rfl) ?_
            refine lv_bipush (v := (8 : Int32)) hx hb dX7_begins_51 (by decide) ?_
            refine lv_icmp_eq (tgt := 63) hx hb dX7_begins_53 (by decide) (fun c53 => ?_) (fun c53 => ?_)
            · replace h := az_pos c53 h
              refine lv_iconst (v := (-1 : Int32)) hx hb dX7_begins_63 (by decide) ?_
              refine lv_goto (tgt := 68) hx hb dX7_begins_64 (by decide) ?_
              obtain ⟨i68, h⟩ := az_ite h
              refine va_iast (D := g.1) (f := wV0) hx hb hK hP hD hS 1 0 rfl rfl (az_vin i68) dX7_begins_68 (fun H locs hP hD hS => ?_)
              obtain ⟨u68, e68⟩ : ∃ w : Nat → Int32, w = upd wV0 y4.toNatClampNeg (-1 : Int32) := ⟨_, rfl⟩
              have hP : va_P g.1 az_cl (az_cM g ad (va_up V 0 u68)) H := by rw [e68]; exact hP
              have hD : va_D A (az_cM g ad (va_up V 0 u68)) := by rw [e68]; exact hD
              replace h := az_let e68 h
              refine lv_iinc (v := y4 + (1 : Int32)) (lv' := [(4, .int (y4 + (1 : Int32))), (0, .ref (ad 0)), (1, .int x1), (2, .int x2), (3, .int x3)]) hx hb dX7_begins_69 hl (k := 4) rfl (rfl) (by decide) rfl (fun ls hl => ?_)
              refine lv_goto (tgt := 3) hx hb dX7_begins_72 (by decide) ?_
              have hP : va_P g.1 az_cl (az_cM g ad (va_up V 0 u68)) _ := hP
              have hD : va_D A (az_cM g ad (va_up V 0 u68)) := hD
              exact ih u68 (y4 + (1 : Int32)) _ _ ls h hP hD hS (lv_sub hl [1, 2, 3, 4, 0] rfl)
            · replace h := az_neg c53 h
              refine lv_iload hx hb dX7_begins_56 (lv_at hl 4 rfl) ?_
              refine lv_bipush (v := (9 : Int32)) hx hb dX7_begins_58 (by decide) ?_
              refine lv_icmp_ne (tgt := 67) hx hb dX7_begins_60 (by decide) (fun c60 => ?_) (fun c60 => ?_)
              · replace h := az_neg c60 h
                refine lv_iconst (v := (0 : Int32)) hx hb dX7_begins_67 (by decide) ?_
                obtain ⟨i68, h⟩ := az_ite h
                refine va_iast (D := g.1) (f := wV0) hx hb hK hP hD hS 1 0 rfl rfl (az_vin i68) dX7_begins_68 (fun H locs hP hD hS => ?_)
                obtain ⟨u68, e68⟩ : ∃ w : Nat → Int32, w = upd wV0 y4.toNatClampNeg (0 : Int32) := ⟨_, rfl⟩
                have hP : va_P g.1 az_cl (az_cM g ad (va_up V 0 u68)) H := by rw [e68]; exact hP
                have hD : va_D A (az_cM g ad (va_up V 0 u68)) := by rw [e68]; exact hD
                replace h := az_let e68 h
                refine lv_iinc (v := y4 + (1 : Int32)) (lv' := [(4, .int (y4 + (1 : Int32))), (0, .ref (ad 0)), (1, .int x1), (2, .int x2), (3, .int x3)]) hx hb dX7_begins_69 hl (k := 4) rfl (rfl) (by decide) rfl (fun ls hl => ?_)
                refine lv_goto (tgt := 3) hx hb dX7_begins_72 (by decide) ?_
                have hP : va_P g.1 az_cl (az_cM g ad (va_up V 0 u68)) _ := hP
                have hD : va_D A (az_cM g ad (va_up V 0 u68)) := hD
                exact ih u68 (y4 + (1 : Int32)) _ _ ls h hP hD hS (lv_sub hl [1, 2, 3, 4, 0] rfl)
              · replace h := az_pos c60 h
                refine lv_iconst (v := (-1 : Int32)) hx hb dX7_begins_63 (by decide) ?_
                refine lv_goto (tgt := 68) hx hb dX7_begins_64 (by decide) ?_
                obtain ⟨i68, h⟩ := az_ite h
                refine va_iast (D := g.1) (f := wV0) hx hb hK hP hD hS 1 0 rfl rfl (az_vin i68) dX7_begins_68 (fun H locs hP hD hS => ?_)
                obtain ⟨u68, e68⟩ : ∃ w : Nat → Int32, w = upd wV0 y4.toNatClampNeg (-1 : Int32) := ⟨_, rfl⟩
                have hP : va_P g.1 az_cl (az_cM g ad (va_up V 0 u68)) H := by rw [e68]; exact hP
                have hD : va_D A (az_cM g ad (va_up V 0 u68)) := by rw [e68]; exact hD
                replace h := az_let e68 h
                refine lv_iinc (v := y4 + (1 : Int32)) (lv' := [(4, .int (y4 + (1 : Int32))), (0, .ref (ad 0)), (1, .int x1), (2, .int x2), (3, .int x3)]) hx hb dX7_begins_69 hl (k := 4) rfl (rfl) (by decide) rfl (fun ls hl => ?_)
                refine lv_goto (tgt := 3) hx hb dX7_begins_72 (by decide) ?_
                have hP : va_P g.1 az_cl (az_cM g ad (va_up V 0 u68)) _ := hP
                have hD : va_D A (az_cM g ad (va_up V 0 u68)) := hD
                exact ih u68 (y4 + (1 : Int32)) _ _ ls h hP hD hS (lv_sub hl [1, 2, 3, 4, 0] rfl)
          · replace h := az_neg c38 h
            refine lv_iload hx hb dX7_begins_41 (lv_at hl 4 rfl) ?_
            refine lv_sipush (v := (964 : Int32)) hx hb dX7_begins_43 (by decide) ?_
            refine lv_icmp_lt (tgt := 63) hx hb dX7_begins_46 (by decide) (fun c46 => ?_) (fun c46 => ?_)
            · replace h := az_pos c46 h
              refine lv_iconst (v := (-1 : Int32)) hx hb dX7_begins_63 (by decide) ?_
              refine lv_goto (tgt := 68) hx hb dX7_begins_64 (by decide) ?_
              obtain ⟨i68, h⟩ := az_ite h
              refine va_iast (D := g.1) (f := wV0) hx hb hK hP hD hS 1 0 rfl rfl (az_vin i68) dX7_begins_68 (fun H locs hP hD hS => ?_)
              obtain ⟨u68, e68⟩ : ∃ w : Nat → Int32, w = upd wV0 y4.toNatClampNeg (-1 : Int32) := ⟨_, rfl⟩
              have hP : va_P g.1 az_cl (az_cM g ad (va_up V 0 u68)) H := by rw [e68]; exact hP
              have hD : va_D A (az_cM g ad (va_up V 0 u68)) := by rw [e68]; exact hD
              replace h := az_let e68 h
              refine lv_iinc (v := y4 + (1 : Int32)) (lv' := [(4, .int (y4 + (1 : Int32))), (0, .ref (ad 0)), (1, .int x1), (2, .int x2), (3, .int x3)]) hx hb dX7_begins_69 hl (k := 4) rfl (rfl) (by decide) rfl (fun ls hl => ?_)
              refine lv_goto (tgt := 3) hx hb dX7_begins_72 (by decide) ?_
              have hP : va_P g.1 az_cl (az_cM g ad (va_up V 0 u68)) _ := hP
              have hD : va_D A (az_cM g ad (va_up V 0 u68)) := hD
              exact ih u68 (y4 + (1 : Int32)) _ _ ls h hP hD hS (lv_sub hl [1, 2, 3, 4, 0] rfl)
            · replace h := az_neg c46 h
              refine lv_iload hx hb dX7_begins_49 (lv_at hl 4 rfl) ?_
              refine lv_bipush (v := (8 : Int32)) hx hb dX7_begins_51 (by decide) ?_
              refine lv_icmp_eq (tgt := 63) hx hb dX7_begins_53 (by decide) (fun c53 => ?_) (fun c53 => ?_)
              · replace h := az_pos c53 h
                refine lv_iconst (v := (-1 : Int32)) hx hb dX7_begins_63 (by decide) ?_
                refine lv_goto (tgt := 68) hx hb dX7_begins_64 (by decide) ?_
                obtain ⟨i68, h⟩ := az_ite h
                refine va_iast (D := g.1) (f := wV0) hx hb hK hP hD hS 1 0 rfl rfl (az_vin i68) dX7_begins_68 (fun H locs hP hD hS => ?_)
                obtain ⟨u68, e68⟩ : ∃ w : Nat → Int32, w = upd wV0 y4.toNatClampNeg (-1 : Int32) := ⟨_, rfl⟩
                have hP : va_P g.1 az_cl (az_cM g ad (va_up V 0 u68)) H := by rw [e68]; exact hP
                have hD : va_D A (az_cM g ad (va_up V 0 u68)) := by rw [e68]; exact hD
                replace h := az_let e68 h
                refine lv_iinc (v := y4 + (1 : Int32)) (lv' := [(4, .int (y4 + (1 : Int32))), (0, .ref (ad 0)), (1, .int x1), (2, .int x2), (3, .int x3)]) hx hb dX7_begins_69 hl (k := 4) rfl (rfl) (by decide) rfl (fun ls hl => ?_)
                refine lv_goto (tgt := 3) hx hb dX7_begins_72 (by decide) ?_
                have hP : va_P g.1 az_cl (az_cM g ad (va_up V 0 u68)) _ := hP
                have hD : va_D A (az_cM g ad (va_up V 0 u68)) := hD
                exact ih u68 (y4 + (1 : Int32)) _ _ ls h hP hD hS (lv_sub hl [1, 2, 3, 4, 0] rfl)
              · replace h := az_neg c53 h
                refine lv_iload hx hb dX7_begins_56 (lv_at hl 4 rfl) ?_
                refine lv_bipush (v := (9 : Int32)) hx hb dX7_begins_58 (by decide) ?_
                refine lv_icmp_ne (tgt := 67) hx hb dX7_begins_60 (by decide) (fun c60 => ?_) (fun c60 => ?_)
                · replace h := az_neg c60 h
                  refine lv_iconst (v := (0 : Int32)) hx hb dX7_begins_67 (by decide) ?_
                  obtain ⟨i68, h⟩ := az_ite h
                  refine va_iast (D := g.1) (f := wV0) hx hb hK hP hD hS 1 0 rfl rfl (az_vin i68) dX7_begins_68 (fun H locs hP hD hS => ?_)
                  obtain ⟨u68, e68⟩ : ∃ w : Nat → Int32, w = upd wV0 y4.toNatClampNeg (0 : Int32) := ⟨_, rfl⟩
                  have hP : va_P g.1 az_cl (az_cM g ad (va_up V 0 u68)) H := by rw [e68]; exact hP
                  have hD : va_D A (az_cM g ad (va_up V 0 u68)) := by rw [e68]; exact hD
                  replace h := az_let e68 h
                  refine lv_iinc (v := y4 + (1 : Int32)) (lv' := [(4, .int (y4 + (1 : Int32))), (0, .ref (ad 0)), (1, .int x1), (2, .int x2), (3, .int x3)]) hx hb dX7_begins_69 hl (k := 4) rfl (rfl) (by decide) rfl (fun ls hl => ?_)
                  refine lv_goto (tgt := 3) hx hb dX7_begins_72 (by decide) ?_
                  have hP : va_P g.1 az_cl (az_cM g ad (va_up V 0 u68)) _ := hP
                  have hD : va_D A (az_cM g ad (va_up V 0 u68)) := hD
                  exact ih u68 (y4 + (1 : Int32)) _ _ ls h hP hD hS (lv_sub hl [1, 2, 3, 4, 0] rfl)
                · replace h := az_pos c60 h
                  refine lv_iconst (v := (-1 : Int32)) hx hb dX7_begins_63 (by decide) ?_
                  refine lv_goto (tgt := 68) hx hb dX7_begins_64 (by decide) ?_
                  obtain ⟨i68, h⟩ := az_ite h
                  refine va_iast (D := g.1) (f := wV0) hx hb hK hP hD hS 1 0 rfl rfl (az_vin i68) dX7_begins_68 (fun H locs hP hD hS => ?_)
                  obtain ⟨u68, e68⟩ : ∃ w : Nat → Int32, w = upd wV0 y4.toNatClampNeg (-1 : Int32) := ⟨_, rfl⟩
                  have hP : va_P g.1 az_cl (az_cM g ad (va_up V 0 u68)) H := by rw [e68]; exact hP
                  have hD : va_D A (az_cM g ad (va_up V 0 u68)) := by rw [e68]; exact hD
                  replace h := az_let e68 h
                  refine lv_iinc (v := y4 + (1 : Int32)) (lv' := [(4, .int (y4 + (1 : Int32))), (0, .ref (ad 0)), (1, .int x1), (2, .int x2), (3, .int x3)]) hx hb dX7_begins_69 hl (k := 4) rfl (rfl) (by decide) rfl (fun ls hl => ?_)
                  refine lv_goto (tgt := 3) hx hb dX7_begins_72 (by decide) ?_
                  have hP : va_P g.1 az_cl (az_cM g ad (va_up V 0 u68)) _ := hP
                  have hD : va_D A (az_cM g ad (va_up V 0 u68)) := hD
                  exact ih u68 (y4 + (1 : Int32)) _ _ ls h hP hD hS (lv_sub hl [1, 2, 3, 4, 0] rfl)
        · replace h := az_neg c22 h
          refine lv_iload hx hb dX7_begins_25 (lv_at hl 4 rfl) ?_
          refine lv_sipush (v := (864 : Int32)) hx hb dX7_begins_27 (by decide) ?_
          refine lv_icmp_lt (tgt := 63) hx hb dX7_begins_30 (by decide) (fun c30 => ?_) (fun c30 => ?_)
          · replace h := az_pos c30 h
            refine lv_iconst (v := (-1 : Int32)) hx hb dX7_begins_63 (by decide) ?_
            refine lv_goto (tgt := 68) hx hb dX7_begins_64 (by decide) ?_
            obtain ⟨i68, h⟩ := az_ite h
            refine va_iast (D := g.1) (f := wV0) hx hb hK hP hD hS 1 0 rfl rfl (az_vin i68) dX7_begins_68 (fun H locs hP hD hS => ?_)
            obtain ⟨u68, e68⟩ : ∃ w : Nat → Int32, w = upd wV0 y4.toNatClampNeg (-1 : Int32) := ⟨_, rfl⟩
            have hP : va_P g.1 az_cl (az_cM g ad (va_up V 0 u68)) H := by rw [e68]; exact hP
            have hD : va_D A (az_cM g ad (va_up V 0 u68)) := by rw [e68]; exact hD
            replace h := az_let e68 h
            refine lv_iinc (v := y4 + (1 : Int32)) (lv' := [(4, .int (y4 + (1 : Int32))), (0, .ref (ad 0)), (1, .int x1), (2, .int x2), (3, .int x3)]) hx hb dX7_begins_69 hl (k := 4) rfl (rfl) (by decide) rfl (fun ls hl => ?_)
            refine lv_goto (tgt := 3) hx hb dX7_begins_72 (by decide) ?_
            have hP : va_P g.1 az_cl (az_cM g ad (va_up V 0 u68)) _ := hP
            have hD : va_D A (az_cM g ad (va_up V 0 u68)) := hD
            exact ih u68 (y4 + (1 : Int32)) _ _ ls h hP hD hS (lv_sub hl [1, 2, 3, 4, 0] rfl)
          · replace h := az_neg c30 h
            refine lv_iload hx hb dX7_begins_33 (lv_at hl 4 rfl) ?_
            refine lv_sipush (v := (868 : Int32)) hx hb dX7_begins_35 (by decide) ?_
            refine lv_icmp_lt (tgt := 49) hx hb dX7_begins_38 (by decide) (fun c38 => ?_) (fun c38 => ?_)
            · replace h := az_pos c38 h
              refine lv_iload hx hb dX7_begins_49 (lv_at hl 4 rfl) ?_
              refine lv_bipush (v := (8 : Int32)) hx hb dX7_begins_51 (by decide) ?_
              refine lv_icmp_eq (tgt := 63) hx hb dX7_begins_53 (by decide) (fun c53 => ?_) (fun c53 => ?_)
              · replace h := az_pos c53 h
                refine lv_iconst (v := (-1 : Int32)) hx hb dX7_begins_63 (by decide) ?_
                refine lv_goto (tgt := 68) hx hb dX7_begins_64 (by decide) ?_
                obtain ⟨i68, h⟩ := az_ite h
                refine va_iast (D := g.1) (f := wV0) hx hb hK hP hD hS 1 0 rfl rfl (az_vin i68) dX7_begins_68 (fun H locs hP hD hS => ?_)
                obtain ⟨u68, e68⟩ : ∃ w : Nat → Int32, w = upd wV0 y4.toNatClampNeg (-1 : Int32) := ⟨_, rfl⟩
                have hP : va_P g.1 az_cl (az_cM g ad (va_up V 0 u68)) H := by rw [e68]; exact hP
                have hD : va_D A (az_cM g ad (va_up V 0 u68)) := by rw [e68]; exact hD
                replace h := az_let e68 h
                refine lv_iinc (v := y4 + (1 : Int32)) (lv' := [(4, .int (y4 + (1 : Int32))), (0, .ref (ad 0)), (1, .int x1), (2, .int x2), (3, .int x3)]) hx hb dX7_begins_69 hl (k := 4) rfl (rfl) (by decide) rfl (fun ls hl => ?_)
                refine lv_goto (tgt := 3) hx hb dX7_begins_72 (by decide) ?_
                have hP : va_P g.1 az_cl (az_cM g ad (va_up V 0 u68)) _ := hP
                have hD : va_D A (az_cM g ad (va_up V 0 u68)) := hD
                exact ih u68 (y4 + (1 : Int32)) _ _ ls h hP hD hS (lv_sub hl [1, 2, 3, 4, 0] rfl)
              · replace h := az_neg c53 h
                refine lv_iload hx hb dX7_begins_56 (lv_at hl 4 rfl) ?_
                refine lv_bipush (v := (9 : Int32)) hx hb dX7_begins_58 (by decide) ?_
                refine lv_icmp_ne (tgt := 67) hx hb dX7_begins_60 (by decide) (fun c60 => ?_) (fun c60 => ?_)
                · replace h := az_neg c60 h
                  refine lv_iconst (v := (0 : Int32)) hx hb dX7_begins_67 (by decide) ?_
                  obtain ⟨i68, h⟩ := az_ite h
                  refine va_iast (D := g.1) (f := wV0) hx hb hK hP hD hS 1 0 rfl rfl (az_vin i68) dX7_begins_68 (fun H locs hP hD hS => ?_)
                  obtain ⟨u68, e68⟩ : ∃ w : Nat → Int32, w = upd wV0 y4.toNatClampNeg (0 : Int32) := ⟨_, rfl⟩
                  have hP : va_P g.1 az_cl (az_cM g ad (va_up V 0 u68)) H := by rw [e68]; exact hP
                  have hD : va_D A (az_cM g ad (va_up V 0 u68)) := by rw [e68]; exact hD
                  replace h := az_let e68 h
                  refine lv_iinc (v := y4 + (1 : Int32)) (lv' := [(4, .int (y4 + (1 : Int32))), (0, .ref (ad 0)), (1, .int x1), (2, .int x2), (3, .int x3)]) hx hb dX7_begins_69 hl (k := 4) rfl (rfl) (by decide) rfl (fun ls hl => ?_)
                  refine lv_goto (tgt := 3) hx hb dX7_begins_72 (by decide) ?_
                  have hP : va_P g.1 az_cl (az_cM g ad (va_up V 0 u68)) _ := hP
                  have hD : va_D A (az_cM g ad (va_up V 0 u68)) := hD
                  exact ih u68 (y4 + (1 : Int32)) _ _ ls h hP hD hS (lv_sub hl [1, 2, 3, 4, 0] rfl)
                · replace h := az_pos c60 h
                  refine lv_iconst (v := (-1 : Int32)) hx hb dX7_begins_63 (by decide) ?_
                  refine lv_goto (tgt := 68) hx hb dX7_begins_64 (by decide) ?_
                  obtain ⟨i68, h⟩ := az_ite h
                  refine va_iast (D := g.1) (f := wV0) hx hb hK hP hD hS 1 0 rfl rfl (az_vin i68) dX7_begins_68 (fun H locs hP hD hS => ?_)
                  obtain ⟨u68, e68⟩ : ∃ w : Nat → Int32, w = upd wV0 y4.toNatClampNeg (-1 : Int32) := ⟨_, rfl⟩
                  have hP : va_P g.1 az_cl (az_cM g ad (va_up V 0 u68)) H := by rw [e68]; exact hP
                  have hD : va_D A (az_cM g ad (va_up V 0 u68)) := by rw [e68]; exact hD
                  replace h := az_let e68 h
                  refine lv_iinc (v := y4 + (1 : Int32)) (lv' := [(4, .int (y4 + (1 : Int32))), (0, .ref (ad 0)), (1, .int x1), (2, .int x2), (3, .int x3)]) hx hb dX7_begins_69 hl (k := 4) rfl (rfl) (by decide) rfl (fun ls hl => ?_)
                  refine lv_goto (tgt := 3) hx hb dX7_begins_72 (by decide) ?_
                  have hP : va_P g.1 az_cl (az_cM g ad (va_up V 0 u68)) _ := hP
                  have hD : va_D A (az_cM g ad (va_up V 0 u68)) := hD
                  exact ih u68 (y4 + (1 : Int32)) _ _ ls h hP hD hS (lv_sub hl [1, 2, 3, 4, 0] rfl)
            · replace h := az_neg c38 h
              refine lv_iload hx hb dX7_begins_41 (lv_at hl 4 rfl) ?_
              refine lv_sipush (v := (964 : Int32)) hx hb dX7_begins_43 (by decide) ?_
              refine lv_icmp_lt (tgt := 63) hx hb dX7_begins_46 (by decide) (fun c46 => ?_) (fun c46 => ?_)
              · replace h := az_pos c46 h
                refine lv_iconst (v := (-1 : Int32)) hx hb dX7_begins_63 (by decide) ?_
                refine lv_goto (tgt := 68) hx hb dX7_begins_64 (by decide) ?_
                obtain ⟨i68, h⟩ := az_ite h
                refine va_iast (D := g.1) (f := wV0) hx hb hK hP hD hS 1 0 rfl rfl (az_vin i68) dX7_begins_68 (fun H locs hP hD hS => ?_)
                obtain ⟨u68, e68⟩ : ∃ w : Nat → Int32, w = upd wV0 y4.toNatClampNeg (-1 : Int32) := ⟨_, rfl⟩
                have hP : va_P g.1 az_cl (az_cM g ad (va_up V 0 u68)) H := by rw [e68]; exact hP
                have hD : va_D A (az_cM g ad (va_up V 0 u68)) := by rw [e68]; exact hD
                replace h := az_let e68 h
                refine lv_iinc (v := y4 + (1 : Int32)) (lv' := [(4, .int (y4 + (1 : Int32))), (0, .ref (ad 0)), (1, .int x1), (2, .int x2), (3, .int x3)]) hx hb dX7_begins_69 hl (k := 4) rfl (rfl) (by decide) rfl (fun ls hl => ?_)
                refine lv_goto (tgt := 3) hx hb dX7_begins_72 (by decide) ?_
                have hP : va_P g.1 az_cl (az_cM g ad (va_up V 0 u68)) _ := hP
                have hD : va_D A (az_cM g ad (va_up V 0 u68)) := hD
                exact ih u68 (y4 + (1 : Int32)) _ _ ls h hP hD hS (lv_sub hl [1, 2, 3, 4, 0] rfl)
              · replace h := az_neg c46 h
                refine lv_iload hx hb dX7_begins_49 (lv_at hl 4 rfl) ?_
                refine lv_bipush (v := (8 : Int32)) hx hb dX7_begins_51 (by decide) ?_
                refine lv_icmp_eq (tgt := 63) hx hb dX7_begins_53 (by decide) (fun c53 => ?_) (fun c53 => ?_)
                · replace h := az_pos c53 h
                  refine lv_iconst (v := (-1 : Int32)) hx hb dX7_begins_63 (by decide) ?_
                  refine lv_goto (tgt := 68) hx hb dX7_begins_64 (by decide) ?_
                  obtain ⟨i68, h⟩ := az_ite h
                  refine va_iast (D := g.1) (f := wV0) hx hb hK hP hD hS 1 0 rfl rfl (az_vin i68) dX7_begins_68 (fun H locs hP hD hS => ?_)
                  obtain ⟨u68, e68⟩ : ∃ w : Nat → Int32, w = upd wV0 y4.toNatClampNeg (-1 : Int32) := ⟨_, rfl⟩
                  have hP : va_P g.1 az_cl (az_cM g ad (va_up V 0 u68)) H := by rw [e68]; exact hP
                  have hD : va_D A (az_cM g ad (va_up V 0 u68)) := by rw [e68]; exact hD
                  replace h := az_let e68 h
                  refine lv_iinc (v := y4 + (1 : Int32)) (lv' := [(4, .int (y4 + (1 : Int32))), (0, .ref (ad 0)), (1, .int x1), (2, .int x2), (3, .int x3)]) hx hb dX7_begins_69 hl (k := 4) rfl (rfl) (by decide) rfl (fun ls hl => ?_)
                  refine lv_goto (tgt := 3) hx hb dX7_begins_72 (by decide) ?_
                  have hP : va_P g.1 az_cl (az_cM g ad (va_up V 0 u68)) _ := hP
                  have hD : va_D A (az_cM g ad (va_up V 0 u68)) := hD
                  exact ih u68 (y4 + (1 : Int32)) _ _ ls h hP hD hS (lv_sub hl [1, 2, 3, 4, 0] rfl)
                · replace h := az_neg c53 h
                  refine lv_iload hx hb dX7_begins_56 (lv_at hl 4 rfl) ?_
                  refine lv_bipush (v := (9 : Int32)) hx hb dX7_begins_58 (by decide) ?_
                  refine lv_icmp_ne (tgt := 67) hx hb dX7_begins_60 (by decide) (fun c60 => ?_) (fun c60 => ?_)
                  · replace h := az_neg c60 h
                    refine lv_iconst (v := (0 : Int32)) hx hb dX7_begins_67 (by decide) ?_
                    obtain ⟨i68, h⟩ := az_ite h
                    refine va_iast (D := g.1) (f := wV0) hx hb hK hP hD hS 1 0 rfl rfl (az_vin i68) dX7_begins_68 (fun H locs hP hD hS => ?_)
                    obtain ⟨u68, e68⟩ : ∃ w : Nat → Int32, w = upd wV0 y4.toNatClampNeg (0 : Int32) := ⟨_, rfl⟩
                    have hP : va_P g.1 az_cl (az_cM g ad (va_up V 0 u68)) H := by rw [e68]; exact hP
                    have hD : va_D A (az_cM g ad (va_up V 0 u68)) := by rw [e68]; exact hD
                    replace h := az_let e68 h
                    refine lv_iinc (v := y4 + (1 : Int32)) (lv' := [(4, .int (y4 + (1 : Int32))), (0, .ref (ad 0)), (1, .int x1), (2, .int x2), (3, .int x3)]) hx hb dX7_begins_69 hl (k := 4) rfl (rfl) (by decide) rfl (fun ls hl => ?_)
                    refine lv_goto (tgt := 3) hx hb dX7_begins_72 (by decide) ?_
                    have hP : va_P g.1 az_cl (az_cM g ad (va_up V 0 u68)) _ := hP
                    have hD : va_D A (az_cM g ad (va_up V 0 u68)) := hD
                    exact ih u68 (y4 + (1 : Int32)) _ _ ls h hP hD hS (lv_sub hl [1, 2, 3, 4, 0] rfl)
                  · replace h := az_pos c60 h
                    refine lv_iconst (v := (-1 : Int32)) hx hb dX7_begins_63 (by decide) ?_
                    refine lv_goto (tgt := 68) hx hb dX7_begins_64 (by decide) ?_
                    obtain ⟨i68, h⟩ := az_ite h
                    refine va_iast (D := g.1) (f := wV0) hx hb hK hP hD hS 1 0 rfl rfl (az_vin i68) dX7_begins_68 (fun H locs hP hD hS => ?_)
                    obtain ⟨u68, e68⟩ : ∃ w : Nat → Int32, w = upd wV0 y4.toNatClampNeg (-1 : Int32) := ⟨_, rfl⟩
                    have hP : va_P g.1 az_cl (az_cM g ad (va_up V 0 u68)) H := by rw [e68]; exact hP
                    have hD : va_D A (az_cM g ad (va_up V 0 u68)) := by rw [e68]; exact hD
                    replace h := az_let e68 h
                    refine lv_iinc (v := y4 + (1 : Int32)) (lv' := [(4, .int (y4 + (1 : Int32))), (0, .ref (ad 0)), (1, .int x1), (2, .int x2), (3, .int x3)]) hx hb dX7_begins_69 hl (k := 4) rfl (rfl) (by decide) rfl (fun ls hl => ?_)
                    refine lv_goto (tgt := 3) hx hb dX7_begins_72 (by decide) ?_
                    have hP : va_P g.1 az_cl (az_cM g ad (va_up V 0 u68)) _ := hP
                    have hD : va_D A (az_cM g ad (va_up V 0 u68)) := hD
                    exact ih u68 (y4 + (1 : Int32)) _ _ ls h hP hD hS (lv_sub hl [1, 2, 3, 4, 0] rfl)
  refine lv_iconst (v := (0 : Int32)) hx hb dX7_begins_0 (by decide) ?_
  refine lv_istore (lv' := [(4, .int (0 : Int32)), (0, .ref (ad 0)), (1, .int x1), (2, .int x2), (3, .int x3)]) hx hb dX7_begins_1 hl (by decide) rfl (fun ls hl => ?_)
  have hP : va_P g.1 az_cl (az_cM g ad (va_up V 0 (V 0))) _ := hP
  have hD : va_D A (az_cM g ad (va_up V 0 (V 0))) := hD
  exact hL3 az_fuel (V 0) (0 : Int32) _ _ ls h hP hD hS (lv_sub hl [1, 2, 3, 4, 0] rfl)

def FX7_thrown (V : az_St) : Option (Int32) := some ((V 2) 1)
theorem inX7_thrown_RX7 : ∀ w ∈ wsX70, w ∈ wsX7_thrown := az_inr [2, 3, 4, 5, 6] (by decide +kernel)
set_option maxHeartbeats 4000000 in
set_option maxRecDepth 100000 in
theorem kX7_thrown (l : Launch) (g : az_G) (ad : Nat → Nat) (V : az_St) (o : Int32) (h : FX7_thrown V = some o) : az_I l yX7_thrown wsX7_thrown ({ frames := 0, cells := 0, slots := 0, locals := 0 } : Room) [.ref (ad 0)] g (az_cM g ad V) o (az_cM g ad V) := by
  refine az_body (cc := cX7_thrown) (maxL := 1) (ret := (some .int)) (Qc := fun A => az_QI g (az_cM g ad V) o A) (by decide +kernel) rfl (Nat.le_of_ble_eq_true rfl) ?_
  intro p e s m args below meth c A hx hb hr hts hown hml hlocks hA hK hP hD hS ls hl
  have hl : lv_has ls 1 [(0, .ref (ad 0))] := hl
  unfold FX7_thrown at h
  refine lv_aload_n hx hb dX7_thrown_0 rfl (lv_at hl 0 rfl) ?_
  refine va_get (D := g.1) (ci := 7) (v := .int ((V 2) 1)) (C := RX7) (T := TX7) (N := 5) hx hb hts inX7_thrown_RX7 hown hK hP 0 rfl rfl 3 (Nat.le_of_ble_eq_true rfl) (hts _ (List.mem_of_getElem? (i := 1) rfl)) (fun _ h9 => h9) rfl dX7_thrown_1 ?_
  have hP : va_P g.1 az_cl (az_cM g ad V) _ := hP
  have hD : va_D A (az_cM g ad V) := hD
  rw [← Option.some.inj h]
  exact az_iret hx hb hr hlocks hK hP hD hS dX7_thrown_4

def FX7_isIn (x0 : Int64) (x2 : Int64) (x4 : Int64) : Option (Int32) := if lg_cmp x0 x2 < (0 : Int32) then (some ((0 : Int32))) else (if (0 : Int32) < lg_cmp x0 x4 then (some ((0 : Int32))) else (some ((1 : Int32))))
set_option maxHeartbeats 4000000 in
set_option maxRecDepth 100000 in
theorem kX7_isIn (l : Launch) (g : az_G)  (x0 : Int64) (x2 : Int64) (x4 : Int64) (o : Int32) (h : FX7_isIn x0 x2 x4 = some o) : az_I l yX7_isIn wsX7_isIn ({ frames := 0, cells := 0, slots := 0, locals := 0 } : Room) [.long x0, .long x2, .long x4] g ([]) o ([]) := by
  refine az_body (cc := cX7_isIn) (maxL := 6) (ret := (some .boolean)) (Qc := fun A => az_QI g ([]) o A) (by decide +kernel) rfl (Nat.le_of_ble_eq_true rfl) ?_
  intro p e s m args below meth c A hx hb hr hts hown hml hlocks hA hK hP hD hS ls hl
  have hl : lv_has ls 6 [(0, .long x0), (2, .long x2), (4, .long x4)] := hl
  unfold FX7_isIn at h
  refine lv_lload_n hx hb dX7_isIn_0 rfl (lv_at hl 0 rfl) ?_
  refine lv_lload_n hx hb dX7_isIn_1 rfl (lv_at hl 1 rfl) ?_
  refine W.lcmp hx hb dX7_isIn_2 ?_
  refine lv_if_lt (tgt := 17) hx hb dX7_isIn_3 (by decide) (fun c3 => ?_) (fun c3 => ?_)
  · replace h := az_pos c3 h
    refine lv_iconst (v := (0 : Int32)) hx hb dX7_isIn_17 (by decide) ?_
    have hP : va_P g.1 az_cl ([]) _ := hP
    have hD : va_D A ([]) := hD
    rw [← Option.some.inj h]
    exact az_zret hx hb hr hlocks (az_nar (r := (0 : Int32)) (by decide +kernel)) hK hP hD hS dX7_isIn_18
  · replace h := az_neg c3 h
    refine lv_lload_n hx hb dX7_isIn_6 rfl (lv_at hl 0 rfl) ?_
    refine lv_lload hx hb dX7_isIn_7 (lv_at hl 2 rfl) ?_
    refine W.lcmp hx hb dX7_isIn_9 ?_
    refine lv_if_gt (tgt := 17) hx hb dX7_isIn_10 (by decide) (fun c10 => ?_) (fun c10 => ?_)
    · replace h := az_pos c10 h
      refine lv_iconst (v := (0 : Int32)) hx hb dX7_isIn_17 (by decide) ?_
      have hP : va_P g.1 az_cl ([]) _ := hP
      have hD : va_D A ([]) := hD
      rw [← Option.some.inj h]
      exact az_zret hx hb hr hlocks (az_nar (r := (0 : Int32)) (by decide +kernel)) hK hP hD hS dX7_isIn_18
    · replace h := az_neg c10 h
      refine lv_iconst (v := (1 : Int32)) hx hb dX7_isIn_13 (by decide) ?_
      refine lv_goto (tgt := 18) hx hb dX7_isIn_14 (by decide) ?_
      have hP : va_P g.1 az_cl ([]) _ := hP
      have hD : va_D A ([]) := hD
      rw [← Option.some.inj h]
      exact az_zret hx hb hr hlocks (az_nar (r := (1 : Int32)) (by decide +kernel)) hK hP hD hS dX7_isIn_18

def FX7_keeps_L52 : Nat → az_St → (Nat → Int32) → (Nat → Int32) → Int32 → Option ((Nat → Int32) × (Nat → Int32))
  | 0, _, _, _, _ => none
  | n + 1, V, wV1, wV2, y1 => if (1036 : Int32) ≤ y1 then (az_lt (upd wV2 0 ((wV2 0) + (1 : Int32))) (fun u93 => some (wV1, u93))) else (if az_in y1 1036 = true then if az_in (((1036 : Int32) * (wV2 0)) + y1) 8288 = true then az_lt (upd wV1 (((1036 : Int32) * (wV2 0)) + y1).toNatClampNeg ((V 0) y1.toNatClampNeg)) (fun u79 => FX7_keeps_L52 n V u79 wV2 (y1 + (1 : Int32))) else none else none)
theorem FX7_keeps_L52_s (n : Nat) (V : az_St) (wV1 : Nat → Int32) (wV2 : Nat → Int32) (y1 : Int32) : FX7_keeps_L52 (n + 1) V wV1 wV2 y1 = (if (1036 : Int32) ≤ y1 then (az_lt (upd wV2 0 ((wV2 0) + (1 : Int32))) (fun u93 => some (wV1, u93))) else (if az_in y1 1036 = true then if az_in (((1036 : Int32) * (wV2 0)) + y1) 8288 = true then az_lt (upd wV1 (((1036 : Int32) * (wV2 0)) + y1).toNatClampNeg ((V 0) y1.toNatClampNeg)) (fun u79 => FX7_keeps_L52 n V u79 wV2 (y1 + (1 : Int32))) else none else none)) := rfl
def FX7_keeps_L11 : Nat → az_St → (Nat → Int32) → (Nat → Int32) → Int32 → Option ((Nat → Int32) × (Nat → Int32))
  | 0, _, _, _, _ => none
  | n + 1, V, wV1, wV2, y1 => if (7252 : Int32) ≤ y1 then (az_lt (upd wV2 0 ((wV2 0) - (1 : Int32))) (fun u47 => FX7_keeps_L52 az_fuel V wV1 u47 (0 : Int32))) else (if az_in (y1 + (1036 : Int32)) 8288 = true then if az_in y1 8288 = true then az_lt (upd wV1 y1.toNatClampNeg (wV1 (y1 + (1036 : Int32)).toNatClampNeg)) (fun u33 => FX7_keeps_L11 n V u33 wV2 (y1 + (1 : Int32))) else none else none)
theorem FX7_keeps_L11_s (n : Nat) (V : az_St) (wV1 : Nat → Int32) (wV2 : Nat → Int32) (y1 : Int32) : FX7_keeps_L11 (n + 1) V wV1 wV2 y1 = (if (7252 : Int32) ≤ y1 then (az_lt (upd wV2 0 ((wV2 0) - (1 : Int32))) (fun u47 => FX7_keeps_L52 az_fuel V wV1 u47 (0 : Int32))) else (if az_in (y1 + (1036 : Int32)) 8288 = true then if az_in y1 8288 = true then az_lt (upd wV1 y1.toNatClampNeg (wV1 (y1 + (1036 : Int32)).toNatClampNeg)) (fun u33 => FX7_keeps_L11 n V u33 wV2 (y1 + (1 : Int32))) else none else none)) := rfl
def FX7_keeps (V : az_St) : Option ((Nat → Int32) × (Nat → Int32)) := if (V 2) 0 = (8 : Int32) then (FX7_keeps_L11 az_fuel V (V 1) (V 2) (0 : Int32)) else (FX7_keeps_L52 az_fuel V (V 1) (V 2) (0 : Int32))
theorem inX7_keeps_RX7 : ∀ w ∈ wsX70, w ∈ wsX7_keeps := az_inr [4, 5, 6, 7, 8] (by decide +kernel)
set_option maxHeartbeats 4000000 in
set_option maxRecDepth 100000 in
theorem kX7_keeps (l : Launch) (g : az_G) (ad : Nat → Nat) (V : az_St) (o : (Nat → Int32) × (Nat → Int32)) (h : FX7_keeps V = some o) : az_V l yX7_keeps wsX7_keeps ({ frames := 0, cells := 0, slots := 0, locals := 0 } : Room) [.ref (ad 0)] g (az_cM g ad V) (az_cM g ad (va_up (va_up V 1 o.1) 2 o.2)) := by
  refine az_body (cc := cX7_keeps) (maxL := 2) (ret := none) (Qc := fun A => az_QV g (az_cM g ad (va_up (va_up V 1 o.1) 2 o.2)) A) (by decide +kernel) rfl (Nat.le_of_ble_eq_true rfl) ?_
  intro p e s m args below meth c A hx hb hr hts hown hml hlocks hA hK hP hD hS ls hl
  have hl : lv_has ls 2 [(0, .ref (ad 0))] := hl
  unfold FX7_keeps at h
  have hL52 : ∀ (n : Nat) (wV1 : Nat → Int32) (wV2 : Nat → Int32) (y1 : Int32) (H : Heap) (locs : List Loc) (ls : Array Slot), FX7_keeps_L52 n V wV1 wV2 y1 = some o → va_P g.1 az_cl (az_cM g ad (va_up (va_up V 1 wV1) 2 wV2)) H → va_D A (az_cM g ad (va_up (va_up V 1 wV1) 2 wV2)) → va_S A s.heap H locs → lv_has ls 2 [(0, .ref (ad 0)), (1, .int y1)] → W p l e ({ frames := 0, cells := 0, slots := 0, locals := 0 } : Room) s m args below meth c H locs 0 0 (MQ below (az_QV g (az_cM g ad (va_up (va_up V 1 o.1) 2 o.2)) A) args s 0 0 A) (F0 m 52 ls []) := by
    intro n
    induction n with
    | zero => intro wV1 wV2 y1 H locs ls h; exact az_non h
    | succ n ih =>
      intro wV1 wV2 y1 H locs ls h hP hD hS hl
      rw [FX7_keeps_L52_s] at h
      refine lv_iload_n hx hb dX7_keeps_52 rfl (lv_at hl 1 rfl) ?_
      refine lv_sipush (v := (1036 : Int32)) hx hb dX7_keeps_53 (by decide) ?_
      refine lv_icmp_ge (tgt := 86) hx hb dX7_keeps_56 (by decide) (fun c56 => ?_) (fun c56 => ?_)
      · replace h := az_pos c56 h
        refine lv_aload_n hx hb dX7_keeps_86 rfl (lv_at hl 0 rfl) ?_
        refine lv_dup hx hb dX7_keeps_87 rfl ?_
        refine va_get (D := g.1) (ci := 7) (v := .int (wV2 0)) (C := RX7) (T := TX7) (N := 5) hx hb hts inX7_keeps_RX7 hown hK hP 0 rfl rfl 2 (Nat.le_of_ble_eq_true rfl) (hts _ (List.mem_of_getElem? (i := 1) rfl)) (fun _ h9 => h9) rfl dX7_keeps_88 ?_
        refine lv_iconst (v := (1 : Int32)) hx hb dX7_keeps_91 (by decide) ?_
        refine lv_iadd hx hb dX7_keeps_92 ?_
        refine va_put (D := g.1) (ci := 7) (v := .int ((wV2 0) + (1 : Int32))) (ty := .int) (C := RX7) (T := TX7) (N := 5) hx hb hts inX7_keeps_RX7 tyX7 tyX7_ok nmX7 hown hK hP hD hS 0 rfl rfl 2 (Nat.le_of_ble_eq_true rfl) (hts _ (List.mem_of_getElem? (i := 1) rfl)) (fun _ h9 => h9) rfl (by decide +kernel) rfl rfl (Nat.le_of_ble_eq_true rfl) dX7_keeps_93 (fun H locs hP hD hS => ?_)
        obtain ⟨u93, e93⟩ : ∃ w : Nat → Int32, w = upd wV2 0 ((wV2 0) + (1 : Int32)) := ⟨_, rfl⟩
        have hP : va_P g.1 az_cl (az_cM g ad (va_up (va_up V 1 wV1) 2 u93)) H := by rw [e93]; exact hP
        have hD : va_D A (az_cM g ad (va_up (va_up V 1 wV1) 2 u93)) := by rw [e93]; exact hD
        replace h := az_let e93 h
        have hP : va_P g.1 az_cl (az_cM g ad (va_up (va_up V 1 wV1) 2 u93)) _ := hP
        have hD : va_D A (az_cM g ad (va_up (va_up V 1 wV1) 2 u93)) := hD
        rw [← Option.some.inj h]
        exact az_vret hx hb hr hlocks hK hP hD hS dX7_keeps_96
      · replace h := az_neg c56 h
        refine lv_aload_n hx hb dX7_keeps_59 rfl (lv_at hl 0 rfl) ?_
        refine va_get (D := g.1) (ci := 7) (v := .ref (ad 2)) (C := RX7) (T := TX7) (N := 5) hx hb hts inX7_keeps_RX7 hown hK hP 0 rfl rfl 1 (Nat.le_of_ble_eq_true rfl) (hts _ (List.mem_of_getElem? (i := 2) rfl)) (fun _ h9 => h9) rfl dX7_keeps_60 ?_
        refine lv_sipush (v := (1036 : Int32)) hx hb dX7_keeps_63 (by decide) ?_
        refine lv_aload_n hx hb dX7_keeps_66 rfl (lv_at hl 0 rfl) ?_
        refine va_get (D := g.1) (ci := 7) (v := .int (wV2 0)) (C := RX7) (T := TX7) (N := 5) hx hb hts inX7_keeps_RX7 hown hK hP 0 rfl rfl 2 (Nat.le_of_ble_eq_true rfl) (hts _ (List.mem_of_getElem? (i := 1) rfl)) (fun _ h9 => h9) rfl dX7_keeps_67 ?_
        refine lv_imul hx hb dX7_keeps_70 ?_
        refine lv_iload_n hx hb dX7_keeps_71 rfl (lv_at hl 1 rfl) ?_
        refine lv_iadd hx hb dX7_keeps_72 ?_
        refine lv_aload_n hx hb dX7_keeps_73 rfl (lv_at hl 0 rfl) ?_
        refine va_get (D := g.1) (ci := 7) (v := .ref (ad 1)) (C := RX7) (T := TX7) (N := 5) hx hb hts inX7_keeps_RX7 hown hK hP 0 rfl rfl 0 (Nat.le_of_ble_eq_true rfl) (hts _ (List.mem_of_getElem? (i := 3) rfl)) (fun _ h9 => h9) rfl dX7_keeps_74 ?_
        refine lv_iload_n hx hb dX7_keeps_77 rfl (lv_at hl 1 rfl) ?_
        obtain ⟨i78, h⟩ := az_ite h
        refine va_iald (D := g.1) (f := (V 0)) hx hb hK hP 1 0 rfl rfl (az_vin i78) dX7_keeps_78 ?_
        obtain ⟨i79, h⟩ := az_ite h
        refine va_iast (D := g.1) (f := wV1) hx hb hK hP hD hS 2 0 rfl rfl (az_vin i79) dX7_keeps_79 (fun H locs hP hD hS => ?_)
        obtain ⟨u79, e79⟩ : ∃ w : Nat → Int32, w = upd wV1 (((1036 : Int32) * (wV2 0)) + y1).toNatClampNeg ((V 0) y1.toNatClampNeg) := ⟨_, rfl⟩
        have hP : va_P g.1 az_cl (az_cM g ad (va_up (va_up V 1 u79) 2 wV2)) H := by rw [e79]; exact hP
        have hD : va_D A (az_cM g ad (va_up (va_up V 1 u79) 2 wV2)) := by rw [e79]; exact hD
        replace h := az_let e79 h
        refine lv_iinc (v := y1 + (1 : Int32)) (lv' := [(1, .int (y1 + (1 : Int32))), (0, .ref (ad 0))]) hx hb dX7_keeps_80 hl (k := 1) rfl (rfl) (by decide) rfl (fun ls hl => ?_)
        refine lv_goto (tgt := 52) hx hb dX7_keeps_83 (by decide) ?_
        have hP : va_P g.1 az_cl (az_cM g ad (va_up (va_up V 1 u79) 2 wV2)) _ := hP
        have hD : va_D A (az_cM g ad (va_up (va_up V 1 u79) 2 wV2)) := hD
        exact ih u79 wV2 (y1 + (1 : Int32)) _ _ ls h hP hD hS (lv_sub hl [1, 0] rfl)
  have hL11 : ∀ (n : Nat) (wV1 : Nat → Int32) (wV2 : Nat → Int32) (y1 : Int32) (H : Heap) (locs : List Loc) (ls : Array Slot), FX7_keeps_L11 n V wV1 wV2 y1 = some o → va_P g.1 az_cl (az_cM g ad (va_up (va_up V 1 wV1) 2 wV2)) H → va_D A (az_cM g ad (va_up (va_up V 1 wV1) 2 wV2)) → va_S A s.heap H locs → lv_has ls 2 [(0, .ref (ad 0)), (1, .int y1)] → W p l e ({ frames := 0, cells := 0, slots := 0, locals := 0 } : Room) s m args below meth c H locs 0 0 (MQ below (az_QV g (az_cM g ad (va_up (va_up V 1 o.1) 2 o.2)) A) args s 0 0 A) (F0 m 11 ls []) := by
    intro n
    induction n with
    | zero => intro wV1 wV2 y1 H locs ls h; exact az_non h
    | succ n ih =>
      intro wV1 wV2 y1 H locs ls h hP hD hS hl
      rw [FX7_keeps_L11_s] at h
      refine lv_iload_n hx hb dX7_keeps_11 rfl (lv_at hl 1 rfl) ?_
      refine lv_sipush (v := (7252 : Int32)) hx hb dX7_keeps_12 (by decide) ?_
      refine lv_icmp_ge (tgt := 40) hx hb dX7_keeps_15 (by decide) (fun c15 => ?_) (fun c15 => ?_)
      · replace h := az_pos c15 h
        refine lv_aload_n hx hb dX7_keeps_40 rfl (lv_at hl 0 rfl) ?_
        refine lv_dup hx hb dX7_keeps_41 rfl ?_
        refine va_get (D := g.1) (ci := 7) (v := .int (wV2 0)) (C := RX7) (T := TX7) (N := 5) hx hb hts inX7_keeps_RX7 hown hK hP 0 rfl rfl 2 (Nat.le_of_ble_eq_true rfl) (hts _ (List.mem_of_getElem? (i := 1) rfl)) (fun _ h9 => h9) rfl dX7_keeps_42 ?_
        refine lv_iconst (v := (1 : Int32)) hx hb dX7_keeps_45 (by decide) ?_
        refine lv_isub hx hb dX7_keeps_46 ?_
        refine va_put (D := g.1) (ci := 7) (v := .int ((wV2 0) - (1 : Int32))) (ty := .int) (C := RX7) (T := TX7) (N := 5) hx hb hts inX7_keeps_RX7 tyX7 tyX7_ok nmX7 hown hK hP hD hS 0 rfl rfl 2 (Nat.le_of_ble_eq_true rfl) (hts _ (List.mem_of_getElem? (i := 1) rfl)) (fun _ h9 => h9) rfl (by decide +kernel) rfl rfl (Nat.le_of_ble_eq_true rfl) dX7_keeps_47 (fun H locs hP hD hS => ?_)
        obtain ⟨u47, e47⟩ : ∃ w : Nat → Int32, w = upd wV2 0 ((wV2 0) - (1 : Int32)) := ⟨_, rfl⟩
        have hP : va_P g.1 az_cl (az_cM g ad (va_up (va_up V 1 wV1) 2 u47)) H := by rw [e47]; exact hP
        have hD : va_D A (az_cM g ad (va_up (va_up V 1 wV1) 2 u47)) := by rw [e47]; exact hD
        replace h := az_let e47 h
        refine lv_iconst (v := (0 : Int32)) hx hb dX7_keeps_50 (by decide) ?_
        refine lv_istore_n (lv' := [(1, .int (0 : Int32)), (0, .ref (ad 0))]) hx hb dX7_keeps_51 rfl hl (by decide) rfl (fun ls hl => ?_)
        have hP : va_P g.1 az_cl (az_cM g ad (va_up (va_up V 1 wV1) 2 u47)) _ := hP
        have hD : va_D A (az_cM g ad (va_up (va_up V 1 wV1) 2 u47)) := hD
        exact hL52 az_fuel wV1 u47 (0 : Int32) _ _ ls h hP hD hS (lv_sub hl [1, 0] rfl)
      · replace h := az_neg c15 h
        refine lv_aload_n hx hb dX7_keeps_18 rfl (lv_at hl 0 rfl) ?_
        refine va_get (D := g.1) (ci := 7) (v := .ref (ad 2)) (C := RX7) (T := TX7) (N := 5) hx hb hts inX7_keeps_RX7 hown hK hP 0 rfl rfl 1 (Nat.le_of_ble_eq_true rfl) (hts _ (List.mem_of_getElem? (i := 2) rfl)) (fun _ h9 => h9) rfl dX7_keeps_19 ?_
        refine lv_iload_n hx hb dX7_keeps_22 rfl (lv_at hl 1 rfl) ?_
        refine lv_aload_n hx hb dX7_keeps_23 rfl (lv_at hl 0 rfl) ?_
        refine va_get (D := g.1) (ci := 7) (v := .ref (ad 2)) (C := RX7) (T := TX7) (N := 5) hx hb hts inX7_keeps_RX7 hown hK hP 0 rfl rfl 1 (Nat.le_of_ble_eq_true rfl) (hts _ (List.mem_of_getElem? (i := 2) rfl)) (fun _ h9 => h9) rfl dX7_keeps_24 ?_
        refine lv_iload_n hx hb dX7_keeps_27 rfl (lv_at hl 1 rfl) ?_
        refine lv_sipush (v := (1036 : Int32)) hx hb dX7_keeps_28 (by decide) ?_
        refine lv_iadd hx hb dX7_keeps_31 ?_
        obtain ⟨i32, h⟩ := az_ite h
        refine va_iald (D := g.1) (f := wV1) hx hb hK hP 2 0 rfl rfl (az_vin i32) dX7_keeps_32 ?_
        obtain ⟨i33, h⟩ := az_ite h
        refine va_iast (D := g.1) (f := wV1) hx hb hK hP hD hS 2 0 rfl rfl (az_vin i33) dX7_keeps_33 (fun H locs hP hD hS => ?_)
        obtain ⟨u33, e33⟩ : ∃ w : Nat → Int32, w = upd wV1 y1.toNatClampNeg (wV1 (y1 + (1036 : Int32)).toNatClampNeg) := ⟨_, rfl⟩
        have hP : va_P g.1 az_cl (az_cM g ad (va_up (va_up V 1 u33) 2 wV2)) H := by rw [e33]; exact hP
        have hD : va_D A (az_cM g ad (va_up (va_up V 1 u33) 2 wV2)) := by rw [e33]; exact hD
        replace h := az_let e33 h
        refine lv_iinc (v := y1 + (1 : Int32)) (lv' := [(1, .int (y1 + (1 : Int32))), (0, .ref (ad 0))]) hx hb dX7_keeps_34 hl (k := 1) rfl (rfl) (by decide) rfl (fun ls hl => ?_)
        refine lv_goto (tgt := 11) hx hb dX7_keeps_37 (by decide) ?_
        have hP : va_P g.1 az_cl (az_cM g ad (va_up (va_up V 1 u33) 2 wV2)) _ := hP
        have hD : va_D A (az_cM g ad (va_up (va_up V 1 u33) 2 wV2)) := hD
        exact ih u33 wV2 (y1 + (1 : Int32)) _ _ ls h hP hD hS (lv_sub hl [1, 0] rfl)
  refine lv_aload_n hx hb dX7_keeps_0 rfl (lv_at hl 0 rfl) ?_
  refine va_get (D := g.1) (ci := 7) (v := .int ((V 2) 0)) (C := RX7) (T := TX7) (N := 5) hx hb hts inX7_keeps_RX7 hown hK hP 0 rfl rfl 2 (Nat.le_of_ble_eq_true rfl) (hts _ (List.mem_of_getElem? (i := 1) rfl)) (fun _ h9 => h9) rfl dX7_keeps_1 ?_
  refine lv_bipush (v := (8 : Int32)) hx hb dX7_keeps_4 (by decide) ?_
  refine lv_icmp_ne (tgt := 50) hx hb dX7_keeps_6 (by decide) (fun c6 => ?_) (fun c6 => ?_)
  · replace h := az_neg c6 h
    refine lv_iconst (v := (0 : Int32)) hx hb dX7_keeps_50 (by decide) ?_
    refine lv_istore_n (lv' := [(1, .int (0 : Int32)), (0, .ref (ad 0))]) hx hb dX7_keeps_51 rfl hl (by decide) rfl (fun ls hl => ?_)
    have hP : va_P g.1 az_cl (az_cM g ad (va_up (va_up V 1 (V 1)) 2 (V 2))) _ := hP
    have hD : va_D A (az_cM g ad (va_up (va_up V 1 (V 1)) 2 (V 2))) := hD
    exact hL52 az_fuel (V 1) (V 2) (0 : Int32) _ _ ls h hP hD hS (lv_sub hl [1, 0] rfl)
  · replace h := az_pos c6 h
    refine lv_iconst (v := (0 : Int32)) hx hb dX7_keeps_9 (by decide) ?_
    refine lv_istore_n (lv' := [(1, .int (0 : Int32)), (0, .ref (ad 0))]) hx hb dX7_keeps_10 rfl hl (by decide) rfl (fun ls hl => ?_)
    have hP : va_P g.1 az_cl (az_cM g ad (va_up (va_up V 1 (V 1)) 2 (V 2))) _ := hP
    have hD : va_D A (az_cM g ad (va_up (va_up V 1 (V 1)) 2 (V 2))) := hD
    exact hL11 az_fuel (V 1) (V 2) (0 : Int32) _ _ ls h hP hD hS (lv_sub hl [1, 0] rfl)

def FX7_undo_L37 : Nat → az_St → (Nat → Int32) → (Nat → Int32) → Int32 → Option (Int32 × (Nat → Int32) × (Nat → Int32))
  | 0, _, _, _, _ => none
  | n + 1, V, wV0, wV2, y1 => if (1036 : Int32) ≤ y1 then (some (wV2 0, wV0, wV2)) else (if az_in (((1036 : Int32) * (wV2 0)) + y1) 8288 = true then if az_in y1 1036 = true then az_lt (upd wV0 y1.toNatClampNeg ((V 1) (((1036 : Int32) * (wV2 0)) + y1).toNatClampNeg)) (fun u64 => FX7_undo_L37 n V u64 wV2 (y1 + (1 : Int32))) else none else none)
theorem FX7_undo_L37_s (n : Nat) (V : az_St) (wV0 : Nat → Int32) (wV2 : Nat → Int32) (y1 : Int32) : FX7_undo_L37 (n + 1) V wV0 wV2 y1 = (if (1036 : Int32) ≤ y1 then (some (wV2 0, wV0, wV2)) else (if az_in (((1036 : Int32) * (wV2 0)) + y1) 8288 = true then if az_in y1 1036 = true then az_lt (upd wV0 y1.toNatClampNeg ((V 1) (((1036 : Int32) * (wV2 0)) + y1).toNatClampNeg)) (fun u64 => FX7_undo_L37 n V u64 wV2 (y1 + (1 : Int32))) else none else none)) := rfl
def FX7_undo (V : az_St) : Option (Int32 × (Nat → Int32) × (Nat → Int32)) := if (V 2) 0 = (0 : Int32) then (az_lt (upd (V 2) 1 (1 : Int32)) (fun u13 => if u13 1 ≤ (0 : Int32) then (az_lt (upd u13 0 ((u13 0) - (1 : Int32))) (fun u32 => FX7_undo_L37 az_fuel V (V 0) u32 (0 : Int32))) else (some ((0 : Int32), (V 0), u13)))) else (az_lt (upd (V 2) 1 (0 : Int32)) (fun u13 => if u13 1 ≤ (0 : Int32) then (az_lt (upd u13 0 ((u13 0) - (1 : Int32))) (fun u32 => FX7_undo_L37 az_fuel V (V 0) u32 (0 : Int32))) else (some ((0 : Int32), (V 0), u13))))
theorem inX7_undo_RX7 : ∀ w ∈ wsX70, w ∈ wsX7_undo := az_inr [5, 6, 7, 8, 9] (by decide +kernel)
set_option maxHeartbeats 4000000 in
set_option maxRecDepth 100000 in
theorem kX7_undo (l : Launch) (g : az_G) (ad : Nat → Nat) (V : az_St) (o : Int32 × (Nat → Int32) × (Nat → Int32)) (h : FX7_undo V = some o) : az_I l yX7_undo wsX7_undo ({ frames := 0, cells := 0, slots := 0, locals := 0 } : Room) [.ref (ad 0)] g (az_cM g ad V) o.1 (az_cM g ad (va_up (va_up V 0 o.2.1) 2 o.2.2)) := by
  refine az_body (cc := cX7_undo) (maxL := 2) (ret := (some .int)) (Qc := fun A => az_QI g (az_cM g ad (va_up (va_up V 0 o.2.1) 2 o.2.2)) o.1 A) (by decide +kernel) rfl (Nat.le_of_ble_eq_true rfl) ?_
  intro p e s m args below meth c A hx hb hr hts hown hml hlocks hA hK hP hD hS ls hl
  have hl : lv_has ls 2 [(0, .ref (ad 0))] := hl
  unfold FX7_undo at h
  have hL37 : ∀ (n : Nat) (wV0 : Nat → Int32) (wV2 : Nat → Int32) (y1 : Int32) (H : Heap) (locs : List Loc) (ls : Array Slot), FX7_undo_L37 n V wV0 wV2 y1 = some o → va_P g.1 az_cl (az_cM g ad (va_up (va_up V 0 wV0) 2 wV2)) H → va_D A (az_cM g ad (va_up (va_up V 0 wV0) 2 wV2)) → va_S A s.heap H locs → lv_has ls 2 [(0, .ref (ad 0)), (1, .int y1)] → W p l e ({ frames := 0, cells := 0, slots := 0, locals := 0 } : Room) s m args below meth c H locs 0 0 (MQ below (az_QI g (az_cM g ad (va_up (va_up V 0 o.2.1) 2 o.2.2)) o.1 A) args s 0 0 A) (F0 m 37 ls []) := by
    intro n
    induction n with
    | zero => intro wV0 wV2 y1 H locs ls h; exact az_non h
    | succ n ih =>
      intro wV0 wV2 y1 H locs ls h hP hD hS hl
      rw [FX7_undo_L37_s] at h
      refine lv_iload_n hx hb dX7_undo_37 rfl (lv_at hl 1 rfl) ?_
      refine lv_sipush (v := (1036 : Int32)) hx hb dX7_undo_38 (by decide) ?_
      refine lv_icmp_ge (tgt := 71) hx hb dX7_undo_41 (by decide) (fun c41 => ?_) (fun c41 => ?_)
      · replace h := az_pos c41 h
        refine lv_aload_n hx hb dX7_undo_71 rfl (lv_at hl 0 rfl) ?_
        refine va_get (D := g.1) (ci := 7) (v := .int (wV2 0)) (C := RX7) (T := TX7) (N := 5) hx hb hts inX7_undo_RX7 hown hK hP 0 rfl rfl 2 (Nat.le_of_ble_eq_true rfl) (hts _ (List.mem_of_getElem? (i := 1) rfl)) (fun _ h9 => h9) rfl dX7_undo_72 ?_
        have hP : va_P g.1 az_cl (az_cM g ad (va_up (va_up V 0 wV0) 2 wV2)) _ := hP
        have hD : va_D A (az_cM g ad (va_up (va_up V 0 wV0) 2 wV2)) := hD
        rw [← Option.some.inj h]
        exact az_iret hx hb hr hlocks hK hP hD hS dX7_undo_75
      · replace h := az_neg c41 h
        refine lv_aload_n hx hb dX7_undo_44 rfl (lv_at hl 0 rfl) ?_
        refine va_get (D := g.1) (ci := 7) (v := .ref (ad 1)) (C := RX7) (T := TX7) (N := 5) hx hb hts inX7_undo_RX7 hown hK hP 0 rfl rfl 0 (Nat.le_of_ble_eq_true rfl) (hts _ (List.mem_of_getElem? (i := 3) rfl)) (fun _ h9 => h9) rfl dX7_undo_45 ?_
        refine lv_iload_n hx hb dX7_undo_48 rfl (lv_at hl 1 rfl) ?_
        refine lv_aload_n hx hb dX7_undo_49 rfl (lv_at hl 0 rfl) ?_
        refine va_get (D := g.1) (ci := 7) (v := .ref (ad 2)) (C := RX7) (T := TX7) (N := 5) hx hb hts inX7_undo_RX7 hown hK hP 0 rfl rfl 1 (Nat.le_of_ble_eq_true rfl) (hts _ (List.mem_of_getElem? (i := 4) rfl)) (fun _ h9 => h9) rfl dX7_undo_50 ?_
        refine lv_sipush (v := (1036 : Int32)) hx hb dX7_undo_53 (by decide) ?_
        refine lv_aload_n hx hb dX7_undo_56 rfl (lv_at hl 0 rfl) ?_
        refine va_get (D := g.1) (ci := 7) (v := .int (wV2 0)) (C := RX7) (T := TX7) (N := 5) hx hb hts inX7_undo_RX7 hown hK hP 0 rfl rfl 2 (Nat.le_of_ble_eq_true rfl) (hts _ (List.mem_of_getElem? (i := 1) rfl)) (fun _ h9 => h9) rfl dX7_undo_57 ?_
        refine lv_imul hx hb dX7_undo_60 ?_
        refine lv_iload_n hx hb dX7_undo_61 rfl (lv_at hl 1 rfl) ?_
        refine lv_iadd hx hb dX7_undo_62 ?_
        obtain ⟨i63, h⟩ := az_ite h
        refine va_iald (D := g.1) (f := (V 1)) hx hb hK hP 2 0 rfl rfl (az_vin i63) dX7_undo_63 ?_
        obtain ⟨i64, h⟩ := az_ite h
        refine va_iast (D := g.1) (f := wV0) hx hb hK hP hD hS 1 0 rfl rfl (az_vin i64) dX7_undo_64 (fun H locs hP hD hS => ?_)
        obtain ⟨u64, e64⟩ : ∃ w : Nat → Int32, w = upd wV0 y1.toNatClampNeg ((V 1) (((1036 : Int32) * (wV2 0)) + y1).toNatClampNeg) := ⟨_, rfl⟩
        have hP : va_P g.1 az_cl (az_cM g ad (va_up (va_up V 0 u64) 2 wV2)) H := by rw [e64]; exact hP
        have hD : va_D A (az_cM g ad (va_up (va_up V 0 u64) 2 wV2)) := by rw [e64]; exact hD
        replace h := az_let e64 h
        refine lv_iinc (v := y1 + (1 : Int32)) (lv' := [(1, .int (y1 + (1 : Int32))), (0, .ref (ad 0))]) hx hb dX7_undo_65 hl (k := 1) rfl (rfl) (by decide) rfl (fun ls hl => ?_)
        refine lv_goto (tgt := 37) hx hb dX7_undo_68 (by decide) ?_
        have hP : va_P g.1 az_cl (az_cM g ad (va_up (va_up V 0 u64) 2 wV2)) _ := hP
        have hD : va_D A (az_cM g ad (va_up (va_up V 0 u64) 2 wV2)) := hD
        exact ih u64 wV2 (y1 + (1 : Int32)) _ _ ls h hP hD hS (lv_sub hl [1, 0] rfl)
  refine lv_aload_n hx hb dX7_undo_0 rfl (lv_at hl 0 rfl) ?_
  refine lv_aload_n hx hb dX7_undo_1 rfl (lv_at hl 0 rfl) ?_
  refine va_get (D := g.1) (ci := 7) (v := .int ((V 2) 0)) (C := RX7) (T := TX7) (N := 5) hx hb hts inX7_undo_RX7 hown hK hP 0 rfl rfl 2 (Nat.le_of_ble_eq_true rfl) (hts _ (List.mem_of_getElem? (i := 1) rfl)) (fun _ h9 => h9) rfl dX7_undo_2 ?_
  refine lv_if_ne (tgt := 12) hx hb dX7_undo_5 (by decide) (fun c5 => ?_) (fun c5 => ?_)
  · replace h := az_neg c5 h
    refine lv_iconst (v := (0 : Int32)) hx hb dX7_undo_12 (by decide) ?_
    refine va_put (D := g.1) (ci := 7) (v := .int (0 : Int32)) (ty := .int) (C := RX7) (T := TX7) (N := 5) hx hb hts inX7_undo_RX7 tyX7 tyX7_ok nmX7 hown hK hP hD hS 0 rfl rfl 3 (Nat.le_of_ble_eq_true rfl) (hts _ (List.mem_of_getElem? (i := 2) rfl)) (fun _ h9 => h9) rfl (by decide +kernel) rfl rfl (Nat.le_of_ble_eq_true rfl) dX7_undo_13 (fun H locs hP hD hS => ?_)
    obtain ⟨u13, e13⟩ : ∃ w : Nat → Int32, w = upd (V 2) 1 (0 : Int32) := ⟨_, rfl⟩
    have hP : va_P g.1 az_cl (az_cM g ad (va_up V 2 u13)) H := by rw [e13]; exact hP
    have hD : va_D A (az_cM g ad (va_up V 2 u13)) := by rw [e13]; exact hD
    replace h := az_let e13 h
    refine lv_aload_n hx hb dX7_undo_16 rfl (lv_at hl 0 rfl) ?_
    refine va_get (D := g.1) (ci := 7) (v := .int (u13 1)) (C := RX7) (T := TX7) (N := 5) hx hb hts inX7_undo_RX7 hown hK hP 0 rfl rfl 3 (Nat.le_of_ble_eq_true rfl) (hts _ (List.mem_of_getElem? (i := 2) rfl)) (fun _ h9 => h9) rfl dX7_undo_17 ?_
    refine lv_if_le (tgt := 25) hx hb dX7_undo_20 (by decide) (fun c20 => ?_) (fun c20 => ?_)
    · replace h := az_pos c20 h
      refine lv_aload_n hx hb dX7_undo_25 rfl (lv_at hl 0 rfl) ?_
      refine lv_dup hx hb dX7_undo_26 rfl ?_
      refine va_get (D := g.1) (ci := 7) (v := .int (u13 0)) (C := RX7) (T := TX7) (N := 5) hx hb hts inX7_undo_RX7 hown hK hP 0 rfl rfl 2 (Nat.le_of_ble_eq_true rfl) (hts _ (List.mem_of_getElem? (i := 1) rfl)) (fun _ h9 => h9) rfl dX7_undo_27 ?_
      refine lv_iconst (v := (1 : Int32)) hx hb dX7_undo_30 (by decide) ?_
      refine lv_isub hx hb dX7_undo_31 ?_
      refine va_put (D := g.1) (ci := 7) (v := .int ((u13 0) - (1 : Int32))) (ty := .int) (C := RX7) (T := TX7) (N := 5) hx hb hts inX7_undo_RX7 tyX7 tyX7_ok nmX7 hown hK hP hD hS 0 rfl rfl 2 (Nat.le_of_ble_eq_true rfl) (hts _ (List.mem_of_getElem? (i := 1) rfl)) (fun _ h9 => h9) rfl (by decide +kernel) rfl rfl (Nat.le_of_ble_eq_true rfl) dX7_undo_32 (fun H locs hP hD hS => ?_)
      obtain ⟨u32, e32⟩ : ∃ w : Nat → Int32, w = upd u13 0 ((u13 0) - (1 : Int32)) := ⟨_, rfl⟩
      have hP : va_P g.1 az_cl (az_cM g ad (va_up V 2 u32)) H := by rw [e32]; exact hP
      have hD : va_D A (az_cM g ad (va_up V 2 u32)) := by rw [e32]; exact hD
      replace h := az_let e32 h
      refine lv_iconst (v := (0 : Int32)) hx hb dX7_undo_35 (by decide) ?_
      refine lv_istore_n (lv' := [(1, .int (0 : Int32)), (0, .ref (ad 0))]) hx hb dX7_undo_36 rfl hl (by decide) rfl (fun ls hl => ?_)
      have hP : va_P g.1 az_cl (az_cM g ad (va_up (va_up V 0 (V 0)) 2 u32)) _ := hP
      have hD : va_D A (az_cM g ad (va_up (va_up V 0 (V 0)) 2 u32)) := hD
      exact hL37 az_fuel (V 0) u32 (0 : Int32) _ _ ls h hP hD hS (lv_sub hl [1, 0] rfl)
    · replace h := az_neg c20 h
      refine lv_iconst (v := (0 : Int32)) hx hb dX7_undo_23 (by decide) ?_
      have hP : va_P g.1 az_cl (az_cM g ad (va_up (va_up V 0 (V 0)) 2 u13)) _ := hP
      have hD : va_D A (az_cM g ad (va_up (va_up V 0 (V 0)) 2 u13)) := hD
      rw [← Option.some.inj h]
      exact az_iret hx hb hr hlocks hK hP hD hS dX7_undo_24
  · replace h := az_pos c5 h
    refine lv_iconst (v := (1 : Int32)) hx hb dX7_undo_8 (by decide) ?_
    refine lv_goto (tgt := 13) hx hb dX7_undo_9 (by decide) ?_
    refine va_put (D := g.1) (ci := 7) (v := .int (1 : Int32)) (ty := .int) (C := RX7) (T := TX7) (N := 5) hx hb hts inX7_undo_RX7 tyX7 tyX7_ok nmX7 hown hK hP hD hS 0 rfl rfl 3 (Nat.le_of_ble_eq_true rfl) (hts _ (List.mem_of_getElem? (i := 2) rfl)) (fun _ h9 => h9) rfl (by decide +kernel) rfl rfl (Nat.le_of_ble_eq_true rfl) dX7_undo_13 (fun H locs hP hD hS => ?_)
    obtain ⟨u13, e13⟩ : ∃ w : Nat → Int32, w = upd (V 2) 1 (1 : Int32) := ⟨_, rfl⟩
    have hP : va_P g.1 az_cl (az_cM g ad (va_up V 2 u13)) H := by rw [e13]; exact hP
    have hD : va_D A (az_cM g ad (va_up V 2 u13)) := by rw [e13]; exact hD
    replace h := az_let e13 h
    refine lv_aload_n hx hb dX7_undo_16 rfl (lv_at hl 0 rfl) ?_
    refine va_get (D := g.1) (ci := 7) (v := .int (u13 1)) (C := RX7) (T := TX7) (N := 5) hx hb hts inX7_undo_RX7 hown hK hP 0 rfl rfl 3 (Nat.le_of_ble_eq_true rfl) (hts _ (List.mem_of_getElem? (i := 2) rfl)) (fun _ h9 => h9) rfl dX7_undo_17 ?_
    refine lv_if_le (tgt := 25) hx hb dX7_undo_20 (by decide) (fun c20 => ?_) (fun c20 => ?_)
    · replace h := az_pos c20 h
      refine lv_aload_n hx hb dX7_undo_25 rfl (lv_at hl 0 rfl) ?_
      refine lv_dup hx hb dX7_undo_26 rfl ?_
      refine va_get (D := g.1) (ci := 7) (v := .int (u13 0)) (C := RX7) (T := TX7) (N := 5) hx hb hts inX7_undo_RX7 hown hK hP 0 rfl rfl 2 (Nat.le_of_ble_eq_true rfl) (hts _ (List.mem_of_getElem? (i := 1) rfl)) (fun _ h9 => h9) rfl dX7_undo_27 ?_
      refine lv_iconst (v := (1 : Int32)) hx hb dX7_undo_30 (by decide) ?_
      refine lv_isub hx hb dX7_undo_31 ?_
      refine va_put (D := g.1) (ci := 7) (v := .int ((u13 0) - (1 : Int32))) (ty := .int) (C := RX7) (T := TX7) (N := 5) hx hb hts inX7_undo_RX7 tyX7 tyX7_ok nmX7 hown hK hP hD hS 0 rfl rfl 2 (Nat.le_of_ble_eq_true rfl) (hts _ (List.mem_of_getElem? (i := 1) rfl)) (fun _ h9 => h9) rfl (by decide +kernel) rfl rfl (Nat.le_of_ble_eq_true rfl) dX7_undo_32 (fun H locs hP hD hS => ?_)
      obtain ⟨u32, e32⟩ : ∃ w : Nat → Int32, w = upd u13 0 ((u13 0) - (1 : Int32)) := ⟨_, rfl⟩
      have hP : va_P g.1 az_cl (az_cM g ad (va_up V 2 u32)) H := by rw [e32]; exact hP
      have hD : va_D A (az_cM g ad (va_up V 2 u32)) := by rw [e32]; exact hD
      replace h := az_let e32 h
      refine lv_iconst (v := (0 : Int32)) hx hb dX7_undo_35 (by decide) ?_
      refine lv_istore_n (lv' := [(1, .int (0 : Int32)), (0, .ref (ad 0))]) hx hb dX7_undo_36 rfl hl (by decide) rfl (fun ls hl => ?_)
      have hP : va_P g.1 az_cl (az_cM g ad (va_up (va_up V 0 (V 0)) 2 u32)) _ := hP
      have hD : va_D A (az_cM g ad (va_up (va_up V 0 (V 0)) 2 u32)) := hD
      exact hL37 az_fuel (V 0) u32 (0 : Int32) _ _ ls h hP hD hS (lv_sub hl [1, 0] rfl)
    · replace h := az_neg c20 h
      refine lv_iconst (v := (0 : Int32)) hx hb dX7_undo_23 (by decide) ?_
      have hP : va_P g.1 az_cl (az_cM g ad (va_up (va_up V 0 (V 0)) 2 u13)) _ := hP
      have hD : va_D A (az_cM g ad (va_up (va_up V 0 (V 0)) 2 u13)) := hD
      rw [← Option.some.inj h]
      exact az_iret hx hb hr hlocks hK hP hD hS dX7_undo_24

def FX7_reset (V : az_St) (x1 : Int32) (x2 : Int32) (x3 : Int32) : Option ((Nat → Int32) × (Nat → Int32) × (Nat → Int32)) := (FX7_isIn x1.toInt64 (3 : Int64) (10 : Int64)).bind (fun o9 => if o9 = (0 : Int32) then (az_lt (upd (V 2) 1 (1 : Int32)) (fun u46 => if u46 1 ≤ (0 : Int32) then ((FX7_keeps (va_up V 2 u46)).bind (fun o58 => (FX7_begins (va_up (va_up V 1 o58.1) 2 o58.2) x1 x2 x3).bind (fun o65 => some (o65, o58.1, o58.2)))) else (some ((V 0), (V 1), u46)))) else ((FX7_isIn x2.toInt64 (2 : Int64) (12 : Int64)).bind (fun o23 => if o23 = (0 : Int32) then (az_lt (upd (V 2) 1 (1 : Int32)) (fun u46 => if u46 1 ≤ (0 : Int32) then ((FX7_keeps (va_up V 2 u46)).bind (fun o58 => (FX7_begins (va_up (va_up V 1 o58.1) 2 o58.2) x1 x2 x3).bind (fun o65 => some (o65, o58.1, o58.2)))) else (some ((V 0), (V 1), u46)))) else ((FX7_isIn x3.toInt64 (1 : Int64) (100 : Int64)).bind (fun o35 => if o35 = (0 : Int32) then (az_lt (upd (V 2) 1 (1 : Int32)) (fun u46 => if u46 1 ≤ (0 : Int32) then ((FX7_keeps (va_up V 2 u46)).bind (fun o58 => (FX7_begins (va_up (va_up V 1 o58.1) 2 o58.2) x1 x2 x3).bind (fun o65 => some (o65, o58.1, o58.2)))) else (some ((V 0), (V 1), u46)))) else (az_lt (upd (V 2) 1 (0 : Int32)) (fun u46 => if u46 1 ≤ (0 : Int32) then ((FX7_keeps (va_up V 2 u46)).bind (fun o58 => (FX7_begins (va_up (va_up V 1 o58.1) 2 o58.2) x1 x2 x3).bind (fun o65 => some (o65, o58.1, o58.2)))) else (some ((V 0), (V 1), u46)))))))))
theorem inX7_reset_RX7 : ∀ w ∈ wsX70, w ∈ wsX7_reset := az_inr [22, 23, 24, 25, 26] (by decide +kernel)
set_option maxHeartbeats 4000000 in
set_option maxRecDepth 100000 in
theorem kX7_reset (l : Launch) (g : az_G) (ad : Nat → Nat) (V : az_St) (x1 : Int32) (x2 : Int32) (x3 : Int32) (o : (Nat → Int32) × (Nat → Int32) × (Nat → Int32)) (h : FX7_reset V x1 x2 x3 = some o) : az_V l yX7_reset wsX7_reset ({ frames := 1, cells := 0, slots := 0, locals := 25 } : Room) [.ref (ad 0), .int x1, .int x2, .int x3] g (az_cM g ad V) (az_cM g ad (va_up (va_up (va_up V 0 o.1) 1 o.2.1) 2 o.2.2)) := by
  refine az_body (cc := cX7_reset) (maxL := 4) (ret := none) (Qc := fun A => az_QV g (az_cM g ad (va_up (va_up (va_up V 0 o.1) 1 o.2.1) 2 o.2.2)) A) (by decide +kernel) rfl (Nat.le_of_ble_eq_true rfl) ?_
  intro p e s m args below meth c A hx hb hr hts hown hml hlocks hA hK hP hD hS ls hl
  have hl : lv_has ls 4 [(0, .ref (ad 0)), (1, .int x1), (2, .int x2), (3, .int x3)] := hl
  unfold FX7_reset at h
  refine lv_aload_n hx hb dX7_reset_0 rfl (lv_at hl 0 rfl) ?_
  refine lv_iload_n hx hb dX7_reset_1 rfl (lv_at hl 1 rfl) ?_
  refine lv_i2l (v := x1.toInt64) hx hb dX7_reset_2 rfl ?_
  refine lv_ldc2 (v := (3 : Int64)) hx hb hown (hts _ (List.mem_of_getElem? (i := 1) rfl)) dX7_reset_3 ?_
  refine lv_ldc2 (v := (10 : Int64)) hx hb hown (hts _ (List.mem_of_getElem? (i := 2) rfl)) dX7_reset_6 ?_
  obtain ⟨o9, hc9, h⟩ := az_bnd h
  refine az_callS0 (As := [.long x1.toInt64, .long (3 : Int64), .long (10 : Int64)]) (rest := [.ref (ad 0)]) ⟨hx, hb, hml, hown, hts⟩ hl.1 (kX7_isIn l g x1.toInt64 (3 : Int64) (10 : Int64) o9 hc9) (va_cwS 3 hts gX7_reset_X7_isIn rfl rfl rfl (by decide +kernel) ⟨Nat.le_of_ble_eq_true rfl, Nat.le_of_ble_eq_true rfl⟩) rfl hK hP hS hA (Nat.le_of_ble_eq_true rfl) dX7_reset_9 ⟨Nat.zero_le _, Nat.zero_le _⟩ rfl (fun H locs hP hS => ?_)
  refine lv_if_eq (tgt := 45) hx hb dX7_reset_12 (by decide) (fun c12 => ?_) (fun c12 => ?_)
  · replace h := az_pos c12 h
    refine lv_iconst (v := (1 : Int32)) hx hb dX7_reset_45 (by decide) ?_
    refine va_put (D := g.1) (ci := 7) (v := .int (1 : Int32)) (ty := .int) (C := RX7) (T := TX7) (N := 5) hx hb hts inX7_reset_RX7 tyX7 tyX7_ok nmX7 hown hK hP hD hS 0 rfl rfl 3 (Nat.le_of_ble_eq_true rfl) (hts _ (List.mem_of_getElem? (i := 6) rfl)) (fun _ h9 => h9) rfl (by decide +kernel) rfl rfl (Nat.le_of_ble_eq_true rfl) dX7_reset_46 (fun H locs hP hD hS => ?_)
    obtain ⟨u46, e46⟩ : ∃ w : Nat → Int32, w = upd (V 2) 1 (1 : Int32) := ⟨_, rfl⟩
    have hP : va_P g.1 az_cl (az_cM g ad (va_up V 2 u46)) H := by rw [e46]; exact hP
    have hD : va_D A (az_cM g ad (va_up V 2 u46)) := by rw [e46]; exact hD
    replace h := az_let e46 h
    refine lv_aload_n hx hb dX7_reset_49 rfl (lv_at hl 0 rfl) ?_
    refine va_get (D := g.1) (ci := 7) (v := .int (u46 1)) (C := RX7) (T := TX7) (N := 5) hx hb hts inX7_reset_RX7 hown hK hP 0 rfl rfl 3 (Nat.le_of_ble_eq_true rfl) (hts _ (List.mem_of_getElem? (i := 6) rfl)) (fun _ h9 => h9) rfl dX7_reset_50 ?_
    refine lv_if_le (tgt := 57) hx hb dX7_reset_53 (by decide) (fun c53 => ?_) (fun c53 => ?_)
    · replace h := az_pos c53 h
      refine lv_aload_n hx hb dX7_reset_57 rfl (lv_at hl 0 rfl) ?_
      obtain ⟨o58, hc58, h⟩ := az_bnd h
      refine az_callVv (w2 := az_cM g ad (va_up (va_up V 1 o58.1) 2 o58.2)) (As := []) (rest := []) ⟨hx, hb, hml, hown, hts⟩ hl.1 (kX7_keeps l g ad (va_up V 2 u46) o58 hc58) (cwV 0 hts gX7_reset_X7_keeps rfl rfl rfl (by decide +kernel) ⟨Nat.le_of_ble_eq_true rfl, Nat.le_of_ble_eq_true rfl⟩) rfl hK hP hD hS hA [0, 1, 2, 3] [] [0, 1, 2, 3] rfl rfl rfl rfl rfl (by decide) rfl rfl rfl 0 rfl rfl rfl (Nat.le_of_ble_eq_true rfl) dX7_reset_58 ⟨Nat.zero_le _, Nat.zero_le _⟩ rfl (fun H locs hP hD hS => ?_)
      refine lv_aload_n hx hb dX7_reset_61 rfl (lv_at hl 0 rfl) ?_
      refine lv_iload_n hx hb dX7_reset_62 rfl (lv_at hl 1 rfl) ?_
      refine lv_iload_n hx hb dX7_reset_63 rfl (lv_at hl 2 rfl) ?_
      refine lv_iload_n hx hb dX7_reset_64 rfl (lv_at hl 3 rfl) ?_
      obtain ⟨o65, hc65, h⟩ := az_bnd h
      refine az_callVv (w2 := az_cM g ad (va_up (va_up (va_up V 0 o65) 1 o58.1) 2 o58.2)) (As := [.int x1, .int x2, .int x3]) (rest := []) ⟨hx, hb, hml, hown, hts⟩ hl.1 (kX7_begins l g ad (va_up (va_up V 1 o58.1) 2 o58.2) x1 x2 x3 o65 hc65) (cwV 3 hts gX7_reset_X7_begins rfl rfl rfl (by decide +kernel) ⟨Nat.le_of_ble_eq_true rfl, Nat.le_of_ble_eq_true rfl⟩) rfl hK hP hD hS hA [0, 1, 2, 3] [] [0, 1, 2, 3] rfl rfl rfl rfl rfl (by decide) rfl rfl rfl 0 rfl rfl rfl (Nat.le_of_ble_eq_true rfl) dX7_reset_65 ⟨Nat.zero_le _, Nat.zero_le _⟩ rfl (fun H locs hP hD hS => ?_)
      have hP : va_P g.1 az_cl (az_cM g ad (va_up (va_up (va_up V 0 o65) 1 o58.1) 2 o58.2)) _ := hP
      have hD : va_D A (az_cM g ad (va_up (va_up (va_up V 0 o65) 1 o58.1) 2 o58.2)) := hD
      rw [← Option.some.inj h]
      exact az_vret hx hb hr hlocks hK hP hD hS dX7_reset_68
    · replace h := az_neg c53 h
      have hP : va_P g.1 az_cl (az_cM g ad (va_up (va_up (va_up V 0 (V 0)) 1 (V 1)) 2 u46)) _ := hP
      have hD : va_D A (az_cM g ad (va_up (va_up (va_up V 0 (V 0)) 1 (V 1)) 2 u46)) := hD
      rw [← Option.some.inj h]
      exact az_vret hx hb hr hlocks hK hP hD hS dX7_reset_56
  · replace h := az_neg c12 h
    refine lv_iload_n hx hb dX7_reset_15 rfl (lv_at hl 2 rfl) ?_
    refine lv_i2l (v := x2.toInt64) hx hb dX7_reset_16 rfl ?_
    refine lv_ldc2 (v := (2 : Int64)) hx hb hown (hts _ (List.mem_of_getElem? (i := 3) rfl)) dX7_reset_17 ?_
    refine lv_ldc2 (v := (12 : Int64)) hx hb hown (hts _ (List.mem_of_getElem? (i := 4) rfl)) dX7_reset_20 ?_
    obtain ⟨o23, hc23, h⟩ := az_bnd h
    refine az_callS0 (As := [.long x2.toInt64, .long (2 : Int64), .long (12 : Int64)]) (rest := [.ref (ad 0)]) ⟨hx, hb, hml, hown, hts⟩ hl.1 (kX7_isIn l g x2.toInt64 (2 : Int64) (12 : Int64) o23 hc23) (va_cwS 3 hts gX7_reset_X7_isIn rfl rfl rfl (by decide +kernel) ⟨Nat.le_of_ble_eq_true rfl, Nat.le_of_ble_eq_true rfl⟩) rfl hK hP hS hA (Nat.le_of_ble_eq_true rfl) dX7_reset_23 ⟨Nat.zero_le _, Nat.zero_le _⟩ rfl (fun H locs hP hS => ?_)
    refine lv_if_eq (tgt := 45) hx hb dX7_reset_26 (by decide) (fun c26 => ?_) (fun c26 => ?_)
    · replace h := az_pos c26 h
      refine lv_iconst (v := (1 : Int32)) hx hb dX7_reset_45 (by decide) ?_
      refine va_put (D := g.1) (ci := 7) (v := .int (1 : Int32)) (ty := .int) (C := RX7) (T := TX7) (N := 5) hx hb hts inX7_reset_RX7 tyX7 tyX7_ok nmX7 hown hK hP hD hS 0 rfl rfl 3 (Nat.le_of_ble_eq_true rfl) (hts _ (List.mem_of_getElem? (i := 6) rfl)) (fun _ h9 => h9) rfl (by decide +kernel) rfl rfl (Nat.le_of_ble_eq_true rfl) dX7_reset_46 (fun H locs hP hD hS => ?_)
      obtain ⟨u46, e46⟩ : ∃ w : Nat → Int32, w = upd (V 2) 1 (1 : Int32) := ⟨_, rfl⟩
      have hP : va_P g.1 az_cl (az_cM g ad (va_up V 2 u46)) H := by rw [e46]; exact hP
      have hD : va_D A (az_cM g ad (va_up V 2 u46)) := by rw [e46]; exact hD
      replace h := az_let e46 h
      refine lv_aload_n hx hb dX7_reset_49 rfl (lv_at hl 0 rfl) ?_
      refine va_get (D := g.1) (ci := 7) (v := .int (u46 1)) (C := RX7) (T := TX7) (N := 5) hx hb hts inX7_reset_RX7 hown hK hP 0 rfl rfl 3 (Nat.le_of_ble_eq_true rfl) (hts _ (List.mem_of_getElem? (i := 6) rfl)) (fun _ h9 => h9) rfl dX7_reset_50 ?_
      refine lv_if_le (tgt := 57) hx hb dX7_reset_53 (by decide) (fun c53 => ?_) (fun c53 => ?_)
      · replace h := az_pos c53 h
        refine lv_aload_n hx hb dX7_reset_57 rfl (lv_at hl 0 rfl) ?_
        obtain ⟨o58, hc58, h⟩ := az_bnd h
        refine az_callVv (w2 := az_cM g ad (va_up (va_up V 1 o58.1) 2 o58.2)) (As := []) (rest := []) ⟨hx, hb, hml, hown, hts⟩ hl.1 (kX7_keeps l g ad (va_up V 2 u46) o58 hc58) (cwV 0 hts gX7_reset_X7_keeps rfl rfl rfl (by decide +kernel) ⟨Nat.le_of_ble_eq_true rfl, Nat.le_of_ble_eq_true rfl⟩) rfl hK hP hD hS hA [0, 1, 2, 3] [] [0, 1, 2, 3] rfl rfl rfl rfl rfl (by decide) rfl rfl rfl 0 rfl rfl rfl (Nat.le_of_ble_eq_true rfl) dX7_reset_58 ⟨Nat.zero_le _, Nat.zero_le _⟩ rfl (fun H locs hP hD hS => ?_)
        refine lv_aload_n hx hb dX7_reset_61 rfl (lv_at hl 0 rfl) ?_
        refine lv_iload_n hx hb dX7_reset_62 rfl (lv_at hl 1 rfl) ?_
        refine lv_iload_n hx hb dX7_reset_63 rfl (lv_at hl 2 rfl) ?_
        refine lv_iload_n hx hb dX7_reset_64 rfl (lv_at hl 3 rfl) ?_
        obtain ⟨o65, hc65, h⟩ := az_bnd h
        refine az_callVv (w2 := az_cM g ad (va_up (va_up (va_up V 0 o65) 1 o58.1) 2 o58.2)) (As := [.int x1, .int x2, .int x3]) (rest := []) ⟨hx, hb, hml, hown, hts⟩ hl.1 (kX7_begins l g ad (va_up (va_up V 1 o58.1) 2 o58.2) x1 x2 x3 o65 hc65) (cwV 3 hts gX7_reset_X7_begins rfl rfl rfl (by decide +kernel) ⟨Nat.le_of_ble_eq_true rfl, Nat.le_of_ble_eq_true rfl⟩) rfl hK hP hD hS hA [0, 1, 2, 3] [] [0, 1, 2, 3] rfl rfl rfl rfl rfl (by decide) rfl rfl rfl 0 rfl rfl rfl (Nat.le_of_ble_eq_true rfl) dX7_reset_65 ⟨Nat.zero_le _, Nat.zero_le _⟩ rfl (fun H locs hP hD hS => ?_)
        have hP : va_P g.1 az_cl (az_cM g ad (va_up (va_up (va_up V 0 o65) 1 o58.1) 2 o58.2)) _ := hP
        have hD : va_D A (az_cM g ad (va_up (va_up (va_up V 0 o65) 1 o58.1) 2 o58.2)) := hD
        rw [← Option.some.inj h]
        exact az_vret hx hb hr hlocks hK hP hD hS dX7_reset_68
      · replace h := az_neg c53 h
        have hP : va_P g.1 az_cl (az_cM g ad (va_up (va_up (va_up V 0 (V 0)) 1 (V 1)) 2 u46)) _ := hP
        have hD : va_D A (az_cM g ad (va_up (va_up (va_up V 0 (V 0)) 1 (V 1)) 2 u46)) := hD
        rw [← Option.some.inj h]
        exact az_vret hx hb hr hlocks hK hP hD hS dX7_reset_56
    · replace h := az_neg c26 h
      refine lv_iload_n hx hb dX7_reset_29 rfl (lv_at hl 3 rfl) ?_
      refine lv_i2l (v := x3.toInt64) hx hb dX7_reset_30 rfl ?_
      refine lv_lconst (v := (1 : Int64)) hx hb dX7_reset_31 (by decide) ?_
      refine lv_ldc2 (v := (100 : Int64)) hx hb hown (hts _ (List.mem_of_getElem? (i := 5) rfl)) dX7_reset_32 ?_
      obtain ⟨o35, hc35, h⟩ := az_bnd h
      refine az_callS0 (As := [.long x3.toInt64, .long (1 : Int64), .long (100 : Int64)]) (rest := [.ref (ad 0)]) ⟨hx, hb, hml, hown, hts⟩ hl.1 (kX7_isIn l g x3.toInt64 (1 : Int64) (100 : Int64) o35 hc35) (va_cwS 3 hts gX7_reset_X7_isIn rfl rfl rfl (by decide +kernel) ⟨Nat.le_of_ble_eq_true rfl, Nat.le_of_ble_eq_true rfl⟩) rfl hK hP hS hA (Nat.le_of_ble_eq_true rfl) dX7_reset_35 ⟨Nat.zero_le _, Nat.zero_le _⟩ rfl (fun H locs hP hS => ?_)
      refine lv_if_eq (tgt := 45) hx hb dX7_reset_38 (by decide) (fun c38 => ?_) (fun c38 => ?_)
      · replace h := az_pos c38 h
        refine lv_iconst (v := (1 : Int32)) hx hb dX7_reset_45 (by decide) ?_
        refine va_put (D := g.1) (ci := 7) (v := .int (1 : Int32)) (ty := .int) (C := RX7) (T := TX7) (N := 5) hx hb hts inX7_reset_RX7 tyX7 tyX7_ok nmX7 hown hK hP hD hS 0 rfl rfl 3 (Nat.le_of_ble_eq_true rfl) (hts _ (List.mem_of_getElem? (i := 6) rfl)) (fun _ h9 => h9) rfl (by decide +kernel) rfl rfl (Nat.le_of_ble_eq_true rfl) dX7_reset_46 (fun H locs hP hD hS => ?_)
        obtain ⟨u46, e46⟩ : ∃ w : Nat → Int32, w = upd (V 2) 1 (1 : Int32) := ⟨_, rfl⟩
        have hP : va_P g.1 az_cl (az_cM g ad (va_up V 2 u46)) H := by rw [e46]; exact hP
        have hD : va_D A (az_cM g ad (va_up V 2 u46)) := by rw [e46]; exact hD
        replace h := az_let e46 h
        refine lv_aload_n hx hb dX7_reset_49 rfl (lv_at hl 0 rfl) ?_
        refine va_get (D := g.1) (ci := 7) (v := .int (u46 1)) (C := RX7) (T := TX7) (N := 5) hx hb hts inX7_reset_RX7 hown hK hP 0 rfl rfl 3 (Nat.le_of_ble_eq_true rfl) (hts _ (List.mem_of_getElem? (i := 6) rfl)) (fun _ h9 => h9) rfl dX7_reset_50 ?_
        refine lv_if_le (tgt := 57) hx hb dX7_reset_53 (by decide) (fun c53 => ?_) (fun c53 => ?_)
        · replace h := az_pos c53 h
          refine lv_aload_n hx hb dX7_reset_57 rfl (lv_at hl 0 rfl) ?_
          obtain ⟨o58, hc58, h⟩ := az_bnd h
          refine az_callVv (w2 := az_cM g ad (va_up (va_up V 1 o58.1) 2 o58.2)) (As := []) (rest := []) ⟨hx, hb, hml, hown, hts⟩ hl.1 (kX7_keeps l g ad (va_up V 2 u46) o58 hc58) (cwV 0 hts gX7_reset_X7_keeps rfl rfl rfl (by decide +kernel) ⟨Nat.le_of_ble_eq_true rfl, Nat.le_of_ble_eq_true rfl⟩) rfl hK hP hD hS hA [0, 1, 2, 3] [] [0, 1, 2, 3] rfl rfl rfl rfl rfl (by decide) rfl rfl rfl 0 rfl rfl rfl (Nat.le_of_ble_eq_true rfl) dX7_reset_58 ⟨Nat.zero_le _, Nat.zero_le _⟩ rfl (fun H locs hP hD hS => ?_)
          refine lv_aload_n hx hb dX7_reset_61 rfl (lv_at hl 0 rfl) ?_
          refine lv_iload_n hx hb dX7_reset_62 rfl (lv_at hl 1 rfl) ?_
          refine lv_iload_n hx hb dX7_reset_63 rfl (lv_at hl 2 rfl) ?_
          refine lv_iload_n hx hb dX7_reset_64 rfl (lv_at hl 3 rfl) ?_
          obtain ⟨o65, hc65, h⟩ := az_bnd h
          refine az_callVv (w2 := az_cM g ad (va_up (va_up (va_up V 0 o65) 1 o58.1) 2 o58.2)) (As := [.int x1, .int x2, .int x3]) (rest := []) ⟨hx, hb, hml, hown, hts⟩ hl.1 (kX7_begins l g ad (va_up (va_up V 1 o58.1) 2 o58.2) x1 x2 x3 o65 hc65) (cwV 3 hts gX7_reset_X7_begins rfl rfl rfl (by decide +kernel) ⟨Nat.le_of_ble_eq_true rfl, Nat.le_of_ble_eq_true rfl⟩) rfl hK hP hD hS hA [0, 1, 2, 3] [] [0, 1, 2, 3] rfl rfl rfl rfl rfl (by decide) rfl rfl rfl 0 rfl rfl rfl (Nat.le_of_ble_eq_true rfl) dX7_reset_65 ⟨Nat.zero_le _, Nat.zero_le _⟩ rfl (fun H locs hP hD hS => ?_)
          have hP : va_P g.1 az_cl (az_cM g ad (va_up (va_up (va_up V 0 o65) 1 o58.1) 2 o58.2)) _ := hP
          have hD : va_D A (az_cM g ad (va_up (va_up (va_up V 0 o65) 1 o58.1) 2 o58.2)) := hD
          rw [← Option.some.inj h]
          exact az_vret hx hb hr hlocks hK hP hD hS dX7_reset_68
        · replace h := az_neg c53 h
          have hP : va_P g.1 az_cl (az_cM g ad (va_up (va_up (va_up V 0 (V 0)) 1 (V 1)) 2 u46)) _ := hP
          have hD : va_D A (az_cM g ad (va_up (va_up (va_up V 0 (V 0)) 1 (V 1)) 2 u46)) := hD
          rw [← Option.some.inj h]
          exact az_vret hx hb hr hlocks hK hP hD hS dX7_reset_56
      · replace h := az_neg c38 h
        refine lv_iconst (v := (0 : Int32)) hx hb dX7_reset_41 (by decide) ?_
        refine lv_goto (tgt := 46) hx hb dX7_reset_42 (by decide) ?_
        refine va_put (D := g.1) (ci := 7) (v := .int (0 : Int32)) (ty := .int) (C := RX7) (T := TX7) (N := 5) hx hb hts inX7_reset_RX7 tyX7 tyX7_ok nmX7 hown hK hP hD hS 0 rfl rfl 3 (Nat.le_of_ble_eq_true rfl) (hts _ (List.mem_of_getElem? (i := 6) rfl)) (fun _ h9 => h9) rfl (by decide +kernel) rfl rfl (Nat.le_of_ble_eq_true rfl) dX7_reset_46 (fun H locs hP hD hS => ?_)
        obtain ⟨u46, e46⟩ : ∃ w : Nat → Int32, w = upd (V 2) 1 (0 : Int32) := ⟨_, rfl⟩
        have hP : va_P g.1 az_cl (az_cM g ad (va_up V 2 u46)) H := by rw [e46]; exact hP
        have hD : va_D A (az_cM g ad (va_up V 2 u46)) := by rw [e46]; exact hD
        replace h := az_let e46 h
        refine lv_aload_n hx hb dX7_reset_49 rfl (lv_at hl 0 rfl) ?_
        refine va_get (D := g.1) (ci := 7) (v := .int (u46 1)) (C := RX7) (T := TX7) (N := 5) hx hb hts inX7_reset_RX7 hown hK hP 0 rfl rfl 3 (Nat.le_of_ble_eq_true rfl) (hts _ (List.mem_of_getElem? (i := 6) rfl)) (fun _ h9 => h9) rfl dX7_reset_50 ?_
        refine lv_if_le (tgt := 57) hx hb dX7_reset_53 (by decide) (fun c53 => ?_) (fun c53 => ?_)
        · replace h := az_pos c53 h
          refine lv_aload_n hx hb dX7_reset_57 rfl (lv_at hl 0 rfl) ?_
          obtain ⟨o58, hc58, h⟩ := az_bnd h
          refine az_callVv (w2 := az_cM g ad (va_up (va_up V 1 o58.1) 2 o58.2)) (As := []) (rest := []) ⟨hx, hb, hml, hown, hts⟩ hl.1 (kX7_keeps l g ad (va_up V 2 u46) o58 hc58) (cwV 0 hts gX7_reset_X7_keeps rfl rfl rfl (by decide +kernel) ⟨Nat.le_of_ble_eq_true rfl, Nat.le_of_ble_eq_true rfl⟩) rfl hK hP hD hS hA [0, 1, 2, 3] [] [0, 1, 2, 3] rfl rfl rfl rfl rfl (by decide) rfl rfl rfl 0 rfl rfl rfl (Nat.le_of_ble_eq_true rfl) dX7_reset_58 ⟨Nat.zero_le _, Nat.zero_le _⟩ rfl (fun H locs hP hD hS => ?_)
          refine lv_aload_n hx hb dX7_reset_61 rfl (lv_at hl 0 rfl) ?_
          refine lv_iload_n hx hb dX7_reset_62 rfl (lv_at hl 1 rfl) ?_
          refine lv_iload_n hx hb dX7_reset_63 rfl (lv_at hl 2 rfl) ?_
          refine lv_iload_n hx hb dX7_reset_64 rfl (lv_at hl 3 rfl) ?_
          obtain ⟨o65, hc65, h⟩ := az_bnd h
          refine az_callVv (w2 := az_cM g ad (va_up (va_up (va_up V 0 o65) 1 o58.1) 2 o58.2)) (As := [.int x1, .int x2, .int x3]) (rest := []) ⟨hx, hb, hml, hown, hts⟩ hl.1 (kX7_begins l g ad (va_up (va_up V 1 o58.1) 2 o58.2) x1 x2 x3 o65 hc65) (cwV 3 hts gX7_reset_X7_begins rfl rfl rfl (by decide +kernel) ⟨Nat.le_of_ble_eq_true rfl, Nat.le_of_ble_eq_true rfl⟩) rfl hK hP hD hS hA [0, 1, 2, 3] [] [0, 1, 2, 3] rfl rfl rfl rfl rfl (by decide) rfl rfl rfl 0 rfl rfl rfl (Nat.le_of_ble_eq_true rfl) dX7_reset_65 ⟨Nat.zero_le _, Nat.zero_le _⟩ rfl (fun H locs hP hD hS => ?_)
          have hP : va_P g.1 az_cl (az_cM g ad (va_up (va_up (va_up V 0 o65) 1 o58.1) 2 o58.2)) _ := hP
          have hD : va_D A (az_cM g ad (va_up (va_up (va_up V 0 o65) 1 o58.1) 2 o58.2)) := hD
          rw [← Option.some.inj h]
          exact az_vret hx hb hr hlocks hK hP hD hS dX7_reset_68
        · replace h := az_neg c53 h
          have hP : va_P g.1 az_cl (az_cM g ad (va_up (va_up (va_up V 0 (V 0)) 1 (V 1)) 2 u46)) _ := hP
          have hD : va_D A (az_cM g ad (va_up (va_up (va_up V 0 (V 0)) 1 (V 1)) 2 u46)) := hD
          rw [← Option.some.inj h]
          exact az_vret hx hb hr hlocks hK hP hD hS dX7_reset_56

def FX7_ofSegment (V : az_St) (x1 : Int32) (x2 : Int32) : Option (Int32) := if az_in (((10 : Int32) + ((3 : Int32) * x1)) + x2) 1036 = true then some ((V 0) (((10 : Int32) + ((3 : Int32) * x1)) + x2).toNatClampNeg) else none
theorem inX7_ofSegment_RX7 : ∀ w ∈ wsX70, w ∈ wsX7_ofSegment := az_inr [2, 3, 4, 5, 6] (by decide +kernel)
set_option maxHeartbeats 4000000 in
set_option maxRecDepth 100000 in
theorem kX7_ofSegment (l : Launch) (g : az_G) (ad : Nat → Nat) (V : az_St) (x1 : Int32) (x2 : Int32) (o : Int32) (h : FX7_ofSegment V x1 x2 = some o) : az_I l yX7_ofSegment wsX7_ofSegment ({ frames := 0, cells := 0, slots := 0, locals := 0 } : Room) [.ref (ad 0), .int x1, .int x2] g (az_cM g ad V) o (az_cM g ad V) := by
  refine az_body (cc := cX7_ofSegment) (maxL := 3) (ret := (some .int)) (Qc := fun A => az_QI g (az_cM g ad V) o A) (by decide +kernel) rfl (Nat.le_of_ble_eq_true rfl) ?_
  intro p e s m args below meth c A hx hb hr hts hown hml hlocks hA hK hP hD hS ls hl
  have hl : lv_has ls 3 [(0, .ref (ad 0)), (1, .int x1), (2, .int x2)] := hl
  unfold FX7_ofSegment at h
  refine lv_aload_n hx hb dX7_ofSegment_0 rfl (lv_at hl 0 rfl) ?_
  refine va_get (D := g.1) (ci := 7) (v := .ref (ad 1)) (C := RX7) (T := TX7) (N := 5) hx hb hts inX7_ofSegment_RX7 hown hK hP 0 rfl rfl 0 (Nat.le_of_ble_eq_true rfl) (hts _ (List.mem_of_getElem? (i := 1) rfl)) (fun _ h9 => h9) rfl dX7_ofSegment_1 ?_
  refine lv_bipush (v := (10 : Int32)) hx hb dX7_ofSegment_4 (by decide) ?_
  refine lv_iconst (v := (3 : Int32)) hx hb dX7_ofSegment_6 (by decide) ?_
  refine lv_iload_n hx hb dX7_ofSegment_7 rfl (lv_at hl 1 rfl) ?_
  refine lv_imul hx hb dX7_ofSegment_8 ?_
  refine lv_iadd hx hb dX7_ofSegment_9 ?_
  refine lv_iload_n hx hb dX7_ofSegment_10 rfl (lv_at hl 2 rfl) ?_
  refine lv_iadd hx hb dX7_ofSegment_11 ?_
  obtain ⟨i12, h⟩ := az_ite h
  refine va_iald (D := g.1) (f := (V 0)) hx hb hK hP 1 0 rfl rfl (az_vin i12) dX7_ofSegment_12 ?_
  have hP : va_P g.1 az_cl (az_cM g ad V) _ := hP
  have hD : va_D A (az_cM g ad V) := hD
  rw [← Option.some.inj h]
  exact az_iret hx hb hr hlocks hK hP hD hS dX7_ofSegment_13

def FX7_setSegment (V : az_St) (x1 : Int32) (x2 : Int32) (x3 : Int32) : Option ((Nat → Int32)) := if az_in (((10 : Int32) + ((3 : Int32) * x1)) + x2) 1036 = true then az_lt (upd (V 0) (((10 : Int32) + ((3 : Int32) * x1)) + x2).toNatClampNeg x3) (fun u13 => some (u13)) else none
theorem inX7_setSegment_RX7 : ∀ w ∈ wsX70, w ∈ wsX7_setSegment := az_inr [2, 3, 4, 5, 6] (by decide +kernel)
set_option maxHeartbeats 4000000 in
set_option maxRecDepth 100000 in
theorem kX7_setSegment (l : Launch) (g : az_G) (ad : Nat → Nat) (V : az_St) (x1 : Int32) (x2 : Int32) (x3 : Int32) (o : (Nat → Int32)) (h : FX7_setSegment V x1 x2 x3 = some o) : az_V l yX7_setSegment wsX7_setSegment ({ frames := 0, cells := 0, slots := 0, locals := 0 } : Room) [.ref (ad 0), .int x1, .int x2, .int x3] g (az_cM g ad V) (az_cM g ad (va_up V 0 o)) := by
  refine az_body (cc := cX7_setSegment) (maxL := 4) (ret := none) (Qc := fun A => az_QV g (az_cM g ad (va_up V 0 o)) A) (by decide +kernel) rfl (Nat.le_of_ble_eq_true rfl) ?_
  intro p e s m args below meth c A hx hb hr hts hown hml hlocks hA hK hP hD hS ls hl
  have hl : lv_has ls 4 [(0, .ref (ad 0)), (1, .int x1), (2, .int x2), (3, .int x3)] := hl
  unfold FX7_setSegment at h
  refine lv_aload_n hx hb dX7_setSegment_0 rfl (lv_at hl 0 rfl) ?_
  refine va_get (D := g.1) (ci := 7) (v := .ref (ad 1)) (C := RX7) (T := TX7) (N := 5) hx hb hts inX7_setSegment_RX7 hown hK hP 0 rfl rfl 0 (Nat.le_of_ble_eq_true rfl) (hts _ (List.mem_of_getElem? (i := 1) rfl)) (fun _ h9 => h9) rfl dX7_setSegment_1 ?_
  refine lv_bipush (v := (10 : Int32)) hx hb dX7_setSegment_4 (by decide) ?_
  refine lv_iconst (v := (3 : Int32)) hx hb dX7_setSegment_6 (by decide) ?_
  refine lv_iload_n hx hb dX7_setSegment_7 rfl (lv_at hl 1 rfl) ?_
  refine lv_imul hx hb dX7_setSegment_8 ?_
  refine lv_iadd hx hb dX7_setSegment_9 ?_
  refine lv_iload_n hx hb dX7_setSegment_10 rfl (lv_at hl 2 rfl) ?_
  refine lv_iadd hx hb dX7_setSegment_11 ?_
  refine lv_iload_n hx hb dX7_setSegment_12 rfl (lv_at hl 3 rfl) ?_
  obtain ⟨i13, h⟩ := az_ite h
  refine va_iast (D := g.1) (f := (V 0)) hx hb hK hP hD hS 1 0 rfl rfl (az_vin i13) dX7_setSegment_13 (fun H locs hP hD hS => ?_)
  obtain ⟨u13, e13⟩ : ∃ w : Nat → Int32, w = upd (V 0) (((10 : Int32) + ((3 : Int32) * x1)) + x2).toNatClampNeg x3 := ⟨_, rfl⟩
  have hP : va_P g.1 az_cl (az_cM g ad (va_up V 0 u13)) H := by rw [e13]; exact hP
  have hD : va_D A (az_cM g ad (va_up V 0 u13)) := by rw [e13]; exact hD
  replace h := az_let e13 h
  have hP : va_P g.1 az_cl (az_cM g ad (va_up V 0 u13)) _ := hP
  have hD : va_D A (az_cM g ad (va_up V 0 u13)) := hD
  rw [← Option.some.inj h]
  exact az_vret hx hb hr hlocks hK hP hD hS dX7_setSegment_14

def FX7_ofBlock (V : az_St) (x1 : Int32) (x2 : Int32) : Option (Int32) := if az_in (((40 : Int32) + ((5 : Int32) * x1)) + x2) 1036 = true then some ((V 0) (((40 : Int32) + ((5 : Int32) * x1)) + x2).toNatClampNeg) else none
theorem inX7_ofBlock_RX7 : ∀ w ∈ wsX70, w ∈ wsX7_ofBlock := az_inr [2, 3, 4, 5, 6] (by decide +kernel)
set_option maxHeartbeats 4000000 in
set_option maxRecDepth 100000 in
theorem kX7_ofBlock (l : Launch) (g : az_G) (ad : Nat → Nat) (V : az_St) (x1 : Int32) (x2 : Int32) (o : Int32) (h : FX7_ofBlock V x1 x2 = some o) : az_I l yX7_ofBlock wsX7_ofBlock ({ frames := 0, cells := 0, slots := 0, locals := 0 } : Room) [.ref (ad 0), .int x1, .int x2] g (az_cM g ad V) o (az_cM g ad V) := by
  refine az_body (cc := cX7_ofBlock) (maxL := 3) (ret := (some .int)) (Qc := fun A => az_QI g (az_cM g ad V) o A) (by decide +kernel) rfl (Nat.le_of_ble_eq_true rfl) ?_
  intro p e s m args below meth c A hx hb hr hts hown hml hlocks hA hK hP hD hS ls hl
  have hl : lv_has ls 3 [(0, .ref (ad 0)), (1, .int x1), (2, .int x2)] := hl
  unfold FX7_ofBlock at h
  refine lv_aload_n hx hb dX7_ofBlock_0 rfl (lv_at hl 0 rfl) ?_
  refine va_get (D := g.1) (ci := 7) (v := .ref (ad 1)) (C := RX7) (T := TX7) (N := 5) hx hb hts inX7_ofBlock_RX7 hown hK hP 0 rfl rfl 0 (Nat.le_of_ble_eq_true rfl) (hts _ (List.mem_of_getElem? (i := 1) rfl)) (fun _ h9 => h9) rfl dX7_ofBlock_1 ?_
  refine lv_bipush (v := (40 : Int32)) hx hb dX7_ofBlock_4 (by decide) ?_
  refine lv_iconst (v := (5 : Int32)) hx hb dX7_ofBlock_6 (by decide) ?_
  refine lv_iload_n hx hb dX7_ofBlock_7 rfl (lv_at hl 1 rfl) ?_
  refine lv_imul hx hb dX7_ofBlock_8 ?_
  refine lv_iadd hx hb dX7_ofBlock_9 ?_
  refine lv_iload_n hx hb dX7_ofBlock_10 rfl (lv_at hl 2 rfl) ?_
  refine lv_iadd hx hb dX7_ofBlock_11 ?_
  obtain ⟨i12, h⟩ := az_ite h
  refine va_iald (D := g.1) (f := (V 0)) hx hb hK hP 1 0 rfl rfl (az_vin i12) dX7_ofBlock_12 ?_
  have hP : va_P g.1 az_cl (az_cM g ad V) _ := hP
  have hD : va_D A (az_cM g ad V) := hD
  rw [← Option.some.inj h]
  exact az_iret hx hb hr hlocks hK hP hD hS dX7_ofBlock_13

def FX7_setBlock (V : az_St) (x1 : Int32) (x2 : Int32) (x3 : Int32) : Option ((Nat → Int32)) := if az_in (((40 : Int32) + ((5 : Int32) * x1)) + x2) 1036 = true then az_lt (upd (V 0) (((40 : Int32) + ((5 : Int32) * x1)) + x2).toNatClampNeg x3) (fun u13 => some (u13)) else none
theorem inX7_setBlock_RX7 : ∀ w ∈ wsX70, w ∈ wsX7_setBlock := az_inr [2, 3, 4, 5, 6] (by decide +kernel)
set_option maxHeartbeats 4000000 in
set_option maxRecDepth 100000 in
theorem kX7_setBlock (l : Launch) (g : az_G) (ad : Nat → Nat) (V : az_St) (x1 : Int32) (x2 : Int32) (x3 : Int32) (o : (Nat → Int32)) (h : FX7_setBlock V x1 x2 x3 = some o) : az_V l yX7_setBlock wsX7_setBlock ({ frames := 0, cells := 0, slots := 0, locals := 0 } : Room) [.ref (ad 0), .int x1, .int x2, .int x3] g (az_cM g ad V) (az_cM g ad (va_up V 0 o)) := by
  refine az_body (cc := cX7_setBlock) (maxL := 4) (ret := none) (Qc := fun A => az_QV g (az_cM g ad (va_up V 0 o)) A) (by decide +kernel) rfl (Nat.le_of_ble_eq_true rfl) ?_
  intro p e s m args below meth c A hx hb hr hts hown hml hlocks hA hK hP hD hS ls hl
  have hl : lv_has ls 4 [(0, .ref (ad 0)), (1, .int x1), (2, .int x2), (3, .int x3)] := hl
  unfold FX7_setBlock at h
  refine lv_aload_n hx hb dX7_setBlock_0 rfl (lv_at hl 0 rfl) ?_
  refine va_get (D := g.1) (ci := 7) (v := .ref (ad 1)) (C := RX7) (T := TX7) (N := 5) hx hb hts inX7_setBlock_RX7 hown hK hP 0 rfl rfl 0 (Nat.le_of_ble_eq_true rfl) (hts _ (List.mem_of_getElem? (i := 1) rfl)) (fun _ h9 => h9) rfl dX7_setBlock_1 ?_
  refine lv_bipush (v := (40 : Int32)) hx hb dX7_setBlock_4 (by decide) ?_
  refine lv_iconst (v := (5 : Int32)) hx hb dX7_setBlock_6 (by decide) ?_
  refine lv_iload_n hx hb dX7_setBlock_7 rfl (lv_at hl 1 rfl) ?_
  refine lv_imul hx hb dX7_setBlock_8 ?_
  refine lv_iadd hx hb dX7_setBlock_9 ?_
  refine lv_iload_n hx hb dX7_setBlock_10 rfl (lv_at hl 2 rfl) ?_
  refine lv_iadd hx hb dX7_setBlock_11 ?_
  refine lv_iload_n hx hb dX7_setBlock_12 rfl (lv_at hl 3 rfl) ?_
  obtain ⟨i13, h⟩ := az_ite h
  refine va_iast (D := g.1) (f := (V 0)) hx hb hK hP hD hS 1 0 rfl rfl (az_vin i13) dX7_setBlock_13 (fun H locs hP hD hS => ?_)
  obtain ⟨u13, e13⟩ : ∃ w : Nat → Int32, w = upd (V 0) (((40 : Int32) + ((5 : Int32) * x1)) + x2).toNatClampNeg x3 := ⟨_, rfl⟩
  have hP : va_P g.1 az_cl (az_cM g ad (va_up V 0 u13)) H := by rw [e13]; exact hP
  have hD : va_D A (az_cM g ad (va_up V 0 u13)) := by rw [e13]; exact hD
  replace h := az_let e13 h
  have hP : va_P g.1 az_cl (az_cM g ad (va_up V 0 u13)) _ := hP
  have hD : va_D A (az_cM g ad (va_up V 0 u13)) := hD
  rw [← Option.some.inj h]
  exact az_vret hx hb hr hlocks hK hP hD hS dX7_setBlock_14

def FX7_isSegment (V : az_St) (x1 : Int32) : Option (Int32) := (FX7_isIn x1.toInt64 (0 : Int64) ((((V 0) (0 : Int32).toNatClampNeg) - (1 : Int32)).toInt64)).bind (fun o12 => if az_01 o12 = true then some (o12) else none)
theorem inX7_isSegment_RX7 : ∀ w ∈ wsX70, w ∈ wsX7_isSegment := az_inr [6, 7, 8, 9, 10] (by decide +kernel)
set_option maxHeartbeats 4000000 in
set_option maxRecDepth 100000 in
theorem kX7_isSegment (l : Launch) (g : az_G) (ad : Nat → Nat) (V : az_St) (x1 : Int32) (o : Int32) (h : FX7_isSegment V x1 = some o) : az_I l yX7_isSegment wsX7_isSegment ({ frames := 1, cells := 0, slots := 0, locals := 25 } : Room) [.ref (ad 0), .int x1] g (az_cM g ad V) o (az_cM g ad V) := by
  refine az_body (cc := cX7_isSegment) (maxL := 2) (ret := (some .boolean)) (Qc := fun A => az_QI g (az_cM g ad V) o A) (by decide +kernel) rfl (Nat.le_of_ble_eq_true rfl) ?_
  intro p e s m args below meth c A hx hb hr hts hown hml hlocks hA hK hP hD hS ls hl
  have hl : lv_has ls 2 [(0, .ref (ad 0)), (1, .int x1)] := hl
  unfold FX7_isSegment at h
  refine lv_iload_n hx hb dX7_isSegment_0 rfl (lv_at hl 1 rfl) ?_
  refine lv_i2l (v := x1.toInt64) hx hb dX7_isSegment_1 rfl ?_
  refine lv_lconst (v := (0 : Int64)) hx hb dX7_isSegment_2 (by decide) ?_
  refine lv_aload_n hx hb dX7_isSegment_3 rfl (lv_at hl 0 rfl) ?_
  refine va_get (D := g.1) (ci := 7) (v := .ref (ad 1)) (C := RX7) (T := TX7) (N := 5) hx hb hts inX7_isSegment_RX7 hown hK hP 0 rfl rfl 0 (Nat.le_of_ble_eq_true rfl) (hts _ (List.mem_of_getElem? (i := 1) rfl)) (fun _ h9 => h9) rfl dX7_isSegment_4 ?_
  refine lv_iconst (v := (0 : Int32)) hx hb dX7_isSegment_7 (by decide) ?_
  refine va_iald (D := g.1) (f := (V 0)) hx hb hK hP 1 0 rfl rfl (az_vin (by decide +kernel)) dX7_isSegment_8 ?_
  refine lv_iconst (v := (1 : Int32)) hx hb dX7_isSegment_9 (by decide) ?_
  refine lv_isub hx hb dX7_isSegment_10 ?_
  refine lv_i2l (v := (((V 0) (0 : Int32).toNatClampNeg) - (1 : Int32)).toInt64) hx hb dX7_isSegment_11 rfl ?_
  obtain ⟨o12, hc12, h⟩ := az_bnd h
  refine az_callS0 (As := [.long x1.toInt64, .long (0 : Int64), .long ((((V 0) (0 : Int32).toNatClampNeg) - (1 : Int32)).toInt64)]) (rest := []) ⟨hx, hb, hml, hown, hts⟩ hl.1 (kX7_isIn l g x1.toInt64 (0 : Int64) ((((V 0) (0 : Int32).toNatClampNeg) - (1 : Int32)).toInt64) o12 hc12) (va_cwS 3 hts gX7_isSegment_X7_isIn rfl rfl rfl (by decide +kernel) ⟨Nat.le_of_ble_eq_true rfl, Nat.le_of_ble_eq_true rfl⟩) rfl hK hP hS hA (Nat.le_of_ble_eq_true rfl) dX7_isSegment_12 ⟨Nat.zero_le _, Nat.zero_le _⟩ rfl (fun H locs hP hS => ?_)
  obtain ⟨z15, h⟩ := az_ite h
  have hP : va_P g.1 az_cl (az_cM g ad V) _ := hP
  have hD : va_D A (az_cM g ad V) := hD
  rw [← Option.some.inj h]
  exact az_zret hx hb hr hlocks (az_nar z15) hK hP hD hS dX7_isSegment_15

def FX7_isBlock (V : az_St) (x1 : Int32) : Option (Int32) := if x1 < (0 : Int32) then (some ((0 : Int32))) else ((FX7_isSegment V (x1 / (16 : Int32))).bind (fun o9 => if o9 = (0 : Int32) then (some ((0 : Int32))) else (if (V 0) (1 : Int32).toNatClampNeg ≤ x1 - x1 / (16 : Int32) * (16 : Int32) then (some ((0 : Int32))) else (some ((1 : Int32))))))
theorem inX7_isBlock_RX7 : ∀ w ∈ wsX70, w ∈ wsX7_isBlock := az_inr [10, 11, 12, 13, 14] (by decide +kernel)
set_option maxHeartbeats 4000000 in
set_option maxRecDepth 100000 in
theorem kX7_isBlock (l : Launch) (g : az_G) (ad : Nat → Nat) (V : az_St) (x1 : Int32) (o : Int32) (h : FX7_isBlock V x1 = some o) : az_I l yX7_isBlock wsX7_isBlock ({ frames := 2, cells := 0, slots := 0, locals := 46 } : Room) [.ref (ad 0), .int x1] g (az_cM g ad V) o (az_cM g ad V) := by
  refine az_body (cc := cX7_isBlock) (maxL := 2) (ret := (some .boolean)) (Qc := fun A => az_QI g (az_cM g ad V) o A) (by decide +kernel) rfl (Nat.le_of_ble_eq_true rfl) ?_
  intro p e s m args below meth c A hx hb hr hts hown hml hlocks hA hK hP hD hS ls hl
  have hl : lv_has ls 2 [(0, .ref (ad 0)), (1, .int x1)] := hl
  unfold FX7_isBlock at h
  refine lv_iload_n hx hb dX7_isBlock_0 rfl (lv_at hl 1 rfl) ?_
  refine lv_if_lt (tgt := 32) hx hb dX7_isBlock_1 (by decide) (fun c1 => ?_) (fun c1 => ?_)
  · replace h := az_pos c1 h
    refine lv_iconst (v := (0 : Int32)) hx hb dX7_isBlock_32 (by decide) ?_
    have hP : va_P g.1 az_cl (az_cM g ad V) _ := hP
    have hD : va_D A (az_cM g ad V) := hD
    rw [← Option.some.inj h]
    exact az_zret hx hb hr hlocks (az_nar (r := (0 : Int32)) (by decide +kernel)) hK hP hD hS dX7_isBlock_33
  · replace h := az_neg c1 h
    refine lv_aload_n hx hb dX7_isBlock_4 rfl (lv_at hl 0 rfl) ?_
    refine lv_iload_n hx hb dX7_isBlock_5 rfl (lv_at hl 1 rfl) ?_
    refine lv_bipush (v := (16 : Int32)) hx hb dX7_isBlock_6 (by decide) ?_
    refine lv_idiv hx hb dX7_isBlock_8 (by decide) ?_
    obtain ⟨o9, hc9, h⟩ := az_bnd h
    refine az_callVi (w2 := az_cM g ad V) (As := [.int (x1 / (16 : Int32))]) (rest := []) ⟨hx, hb, hml, hown, hts⟩ hl.1 (kX7_isSegment l g ad V (x1 / (16 : Int32)) o9 hc9) (cwV 1 hts gX7_isBlock_X7_isSegment rfl rfl rfl (by decide +kernel) ⟨Nat.le_of_ble_eq_true rfl, Nat.le_of_ble_eq_true rfl⟩) rfl hK hP hD hS hA [0, 1, 2, 3] [] [0, 1, 2, 3] rfl rfl rfl rfl rfl (by decide) rfl rfl rfl 0 rfl rfl rfl (Nat.le_of_ble_eq_true rfl) dX7_isBlock_9 ⟨Nat.zero_le _, Nat.zero_le _⟩ rfl (fun H locs hP hD hS => ?_)
    refine lv_if_eq (tgt := 32) hx hb dX7_isBlock_12 (by decide) (fun c12 => ?_) (fun c12 => ?_)
    · replace h := az_pos c12 h
      refine lv_iconst (v := (0 : Int32)) hx hb dX7_isBlock_32 (by decide) ?_
      have hP : va_P g.1 az_cl (az_cM g ad V) _ := hP
      have hD : va_D A (az_cM g ad V) := hD
      rw [← Option.some.inj h]
      exact az_zret hx hb hr hlocks (az_nar (r := (0 : Int32)) (by decide +kernel)) hK hP hD hS dX7_isBlock_33
    · replace h := az_neg c12 h
      refine lv_iload_n hx hb dX7_isBlock_15 rfl (lv_at hl 1 rfl) ?_
      refine lv_bipush (v := (16 : Int32)) hx hb dX7_isBlock_16 (by decide) ?_
      refine lv_irem hx hb dX7_isBlock_18 (by decide) ?_
      refine lv_aload_n hx hb dX7_isBlock_19 rfl (lv_at hl 0 rfl) ?_
      refine va_get (D := g.1) (ci := 7) (v := .ref (ad 1)) (C := RX7) (T := TX7) (N := 5) hx hb hts inX7_isBlock_RX7 hown hK hP 0 rfl rfl 0 (Nat.le_of_ble_eq_true rfl) (hts _ (List.mem_of_getElem? (i := 1) rfl)) (fun _ h9 => h9) rfl dX7_isBlock_20 ?_
      refine lv_iconst (v := (1 : Int32)) hx hb dX7_isBlock_23 (by decide) ?_
      refine va_iald (D := g.1) (f := (V 0)) hx hb hK hP 1 0 rfl rfl (az_vin (by decide +kernel)) dX7_isBlock_24 ?_
      refine lv_icmp_ge (tgt := 32) hx hb dX7_isBlock_25 (by decide) (fun c25 => ?_) (fun c25 => ?_)
      · replace h := az_pos c25 h
        refine lv_iconst (v := (0 : Int32)) hx hb dX7_isBlock_32 (by decide) ?_
        have hP : va_P g.1 az_cl (az_cM g ad V) _ := hP
        have hD : va_D A (az_cM g ad V) := hD
        rw [← Option.some.inj h]
        exact az_zret hx hb hr hlocks (az_nar (r := (0 : Int32)) (by decide +kernel)) hK hP hD hS dX7_isBlock_33
      · replace h := az_neg c25 h
        refine lv_iconst (v := (1 : Int32)) hx hb dX7_isBlock_28 (by decide) ?_
        refine lv_goto (tgt := 33) hx hb dX7_isBlock_29 (by decide) ?_
        have hP : va_P g.1 az_cl (az_cM g ad V) _ := hP
        have hD : va_D A (az_cM g ad V) := hD
        rw [← Option.some.inj h]
        exact az_zret hx hb hr hlocks (az_nar (r := (1 : Int32)) (by decide +kernel)) hK hP hD hS dX7_isBlock_33

def FX7_isKey (x0 : Int32) : Option (Int32) := (FX7_isIn x0.toInt64 (0 : Int64) (23 : Int64)).bind (fun o6 => if az_01 o6 = true then some (o6) else none)
set_option maxHeartbeats 4000000 in
set_option maxRecDepth 100000 in
theorem kX7_isKey (l : Launch) (g : az_G)  (x0 : Int32) (o : Int32) (h : FX7_isKey x0 = some o) : az_I l yX7_isKey wsX7_isKey ({ frames := 1, cells := 0, slots := 0, locals := 25 } : Room) [.int x0] g ([]) o ([]) := by
  refine az_body (cc := cX7_isKey) (maxL := 1) (ret := (some .boolean)) (Qc := fun A => az_QI g ([]) o A) (by decide +kernel) rfl (Nat.le_of_ble_eq_true rfl) ?_
  intro p e s m args below meth c A hx hb hr hts hown hml hlocks hA hK hP hD hS ls hl
  have hl : lv_has ls 1 [(0, .int x0)] := hl
  unfold FX7_isKey at h
  refine lv_iload_n hx hb dX7_isKey_0 rfl (lv_at hl 0 rfl) ?_
  refine lv_i2l (v := x0.toInt64) hx hb dX7_isKey_1 rfl ?_
  refine lv_lconst (v := (0 : Int64)) hx hb dX7_isKey_2 (by decide) ?_
  refine lv_ldc2 (v := (23 : Int64)) hx hb hown (hts _ (List.mem_of_getElem? (i := 1) rfl)) dX7_isKey_3 ?_
  obtain ⟨o6, hc6, h⟩ := az_bnd h
  refine az_callS0 (As := [.long x0.toInt64, .long (0 : Int64), .long (23 : Int64)]) (rest := []) ⟨hx, hb, hml, hown, hts⟩ hl.1 (kX7_isIn l g x0.toInt64 (0 : Int64) (23 : Int64) o6 hc6) (va_cwS 3 hts gX7_isKey_X7_isIn rfl rfl rfl (by decide +kernel) ⟨Nat.le_of_ble_eq_true rfl, Nat.le_of_ble_eq_true rfl⟩) rfl hK hP hS hA (Nat.le_of_ble_eq_true rfl) dX7_isKey_6 ⟨Nat.zero_le _, Nat.zero_le _⟩ rfl (fun H locs hP hS => ?_)
  obtain ⟨z9, h⟩ := az_ite h
  have hP : va_P g.1 az_cl ([]) _ := hP
  have hD : va_D A ([]) := hD
  rw [← Option.some.inj h]
  exact az_zret hx hb hr hlocks (az_nar z9) hK hP hD hS dX7_isKey_9

def FX7_frees_L4 : Nat → az_St → Int32 → Int32 → Option (Int32)
  | 0, _, _, _ => none
  | n + 1, V, y1, y2 => if (V 0) (0 : Int32).toNatClampNeg ≤ y2 then (some (y1)) else ((FX7_ofSegment V y2 (0 : Int32)).bind (fun o18 => if o18 = (0 : Int32) then (FX7_frees_L4 n V (y1 + (1 : Int32)) (y2 + (1 : Int32))) else (FX7_frees_L4 n V (y1 + (0 : Int32)) (y2 + (1 : Int32)))))
theorem FX7_frees_L4_s (n : Nat) (V : az_St) (y1 : Int32) (y2 : Int32) : FX7_frees_L4 (n + 1) V y1 y2 = (if (V 0) (0 : Int32).toNatClampNeg ≤ y2 then (some (y1)) else ((FX7_ofSegment V y2 (0 : Int32)).bind (fun o18 => if o18 = (0 : Int32) then (FX7_frees_L4 n V (y1 + (1 : Int32)) (y2 + (1 : Int32))) else (FX7_frees_L4 n V (y1 + (0 : Int32)) (y2 + (1 : Int32)))))) := rfl
def FX7_frees (V : az_St) : Option (Int32) := FX7_frees_L4 az_fuel V (0 : Int32) (0 : Int32)
theorem inX7_frees_RX7 : ∀ w ∈ wsX70, w ∈ wsX7_frees := az_inr [7, 8, 9, 10, 11] (by decide +kernel)
set_option maxHeartbeats 4000000 in
set_option maxRecDepth 100000 in
theorem kX7_frees (l : Launch) (g : az_G) (ad : Nat → Nat) (V : az_St) (o : Int32) (h : FX7_frees V = some o) : az_I l yX7_frees wsX7_frees ({ frames := 1, cells := 0, slots := 0, locals := 22 } : Room) [.ref (ad 0)] g (az_cM g ad V) o (az_cM g ad V) := by
  refine az_body (cc := cX7_frees) (maxL := 3) (ret := (some .int)) (Qc := fun A => az_QI g (az_cM g ad V) o A) (by decide +kernel) rfl (Nat.le_of_ble_eq_true rfl) ?_
  intro p e s m args below meth c A hx hb hr hts hown hml hlocks hA hK hP hD hS ls hl
  have hl : lv_has ls 3 [(0, .ref (ad 0))] := hl
  unfold FX7_frees at h
  have hL4 : ∀ (n : Nat) (y1 : Int32) (y2 : Int32) (H : Heap) (locs : List Loc) (ls : Array Slot), FX7_frees_L4 n V y1 y2 = some o → va_P g.1 az_cl (az_cM g ad V) H → va_D A (az_cM g ad V) → va_S A s.heap H locs → lv_has ls 3 [(0, .ref (ad 0)), (1, .int y1), (2, .int y2)] → W p l e ({ frames := 1, cells := 0, slots := 0, locals := 22 } : Room) s m args below meth c H locs 0 0 (MQ below (az_QI g (az_cM g ad V) o A) args s 0 0 A) (F0 m 4 ls []) := by
    intro n
    induction n with
    | zero => intro y1 y2 H locs ls h; exact az_non h
    | succ n ih =>
      intro y1 y2 H locs ls h hP hD hS hl
      rw [FX7_frees_L4_s] at h
      refine lv_iload_n hx hb dX7_frees_4 rfl (lv_at hl 2 rfl) ?_
      refine lv_aload_n hx hb dX7_frees_5 rfl (lv_at hl 0 rfl) ?_
      refine va_get (D := g.1) (ci := 7) (v := .ref (ad 1)) (C := RX7) (T := TX7) (N := 5) hx hb hts inX7_frees_RX7 hown hK hP 0 rfl rfl 0 (Nat.le_of_ble_eq_true rfl) (hts _ (List.mem_of_getElem? (i := 1) rfl)) (fun _ h9 => h9) rfl dX7_frees_6 ?_
      refine lv_iconst (v := (0 : Int32)) hx hb dX7_frees_9 (by decide) ?_
      refine va_iald (D := g.1) (f := (V 0)) hx hb hK hP 1 0 rfl rfl (az_vin (by decide +kernel)) dX7_frees_10 ?_
      refine lv_icmp_ge (tgt := 37) hx hb dX7_frees_11 (by decide) (fun c11 => ?_) (fun c11 => ?_)
      · replace h := az_pos c11 h
        refine lv_iload_n hx hb dX7_frees_37 rfl (lv_at hl 1 rfl) ?_
        have hP : va_P g.1 az_cl (az_cM g ad V) _ := hP
        have hD : va_D A (az_cM g ad V) := hD
        rw [← Option.some.inj h]
        exact az_iret hx hb hr hlocks hK hP hD hS dX7_frees_38
      · replace h := az_neg c11 h
        refine lv_iload_n hx hb dX7_frees_14 rfl (lv_at hl 1 rfl) ?_
        refine lv_aload_n hx hb dX7_frees_15 rfl (lv_at hl 0 rfl) ?_
        refine lv_iload_n hx hb dX7_frees_16 rfl (lv_at hl 2 rfl) ?_
        refine lv_iconst (v := (0 : Int32)) hx hb dX7_frees_17 (by decide) ?_
        obtain ⟨o18, hc18, h⟩ := az_bnd h
        refine az_callVi (w2 := az_cM g ad V) (As := [.int y2, .int (0 : Int32)]) (rest := [.int y1]) ⟨hx, hb, hml, hown, hts⟩ hl.1 (kX7_ofSegment l g ad V y2 (0 : Int32) o18 hc18) (cwV 2 hts gX7_frees_X7_ofSegment rfl rfl rfl (by decide +kernel) ⟨Nat.le_of_ble_eq_true rfl, Nat.le_of_ble_eq_true rfl⟩) rfl hK hP hD hS hA [0, 1, 2, 3] [] [0, 1, 2, 3] rfl rfl rfl rfl rfl (by decide) rfl rfl rfl 0 rfl rfl rfl (Nat.le_of_ble_eq_true rfl) dX7_frees_18 ⟨Nat.zero_le _, Nat.zero_le _⟩ rfl (fun H locs hP hD hS => ?_)
        refine lv_if_ne (tgt := 28) hx hb dX7_frees_21 (by decide) (fun c21 => ?_) (fun c21 => ?_)
        · replace h := az_neg c21 h
          refine lv_iconst (v := (0 : Int32)) hx hb dX7_frees_28 (by decide) ?_
          refine lv_iadd hx hb dX7_frees_29 ?_
          refine lv_istore_n (lv' := [(1, .int (y1 + (0 : Int32))), (0, .ref (ad 0)), (2, .int y2)]) hx hb dX7_frees_30 rfl hl (by decide) rfl (fun ls hl => ?_)
          refine lv_iinc (v := y2 + (1 : Int32)) (lv' := [(2, .int (y2 + (1 : Int32))), (1, .int (y1 + (0 : Int32))), (0, .ref (ad 0))]) hx hb dX7_frees_31 hl (k := 2) rfl (rfl) (by decide) rfl (fun ls hl => ?_)
          refine lv_goto (tgt := 4) hx hb dX7_frees_34 (by decide) ?_
          have hP : va_P g.1 az_cl (az_cM g ad V) _ := hP
          have hD : va_D A (az_cM g ad V) := hD
          exact ih (y1 + (0 : Int32)) (y2 + (1 : Int32)) _ _ ls h hP hD hS (lv_sub hl [2, 1, 0] rfl)
        · replace h := az_pos c21 h
          refine lv_iconst (v := (1 : Int32)) hx hb dX7_frees_24 (by decide) ?_
          refine lv_goto (tgt := 29) hx hb dX7_frees_25 (by decide) ?_
          refine lv_iadd hx hb dX7_frees_29 ?_
          refine lv_istore_n (lv' := [(1, .int (y1 + (1 : Int32))), (0, .ref (ad 0)), (2, .int y2)]) hx hb dX7_frees_30 rfl hl (by decide) rfl (fun ls hl => ?_)
          refine lv_iinc (v := y2 + (1 : Int32)) (lv' := [(2, .int (y2 + (1 : Int32))), (1, .int (y1 + (1 : Int32))), (0, .ref (ad 0))]) hx hb dX7_frees_31 hl (k := 2) rfl (rfl) (by decide) rfl (fun ls hl => ?_)
          refine lv_goto (tgt := 4) hx hb dX7_frees_34 (by decide) ?_
          have hP : va_P g.1 az_cl (az_cM g ad V) _ := hP
          have hD : va_D A (az_cM g ad V) := hD
          exact ih (y1 + (1 : Int32)) (y2 + (1 : Int32)) _ _ ls h hP hD hS (lv_sub hl [2, 1, 0] rfl)
  refine lv_iconst (v := (0 : Int32)) hx hb dX7_frees_0 (by decide) ?_
  refine lv_istore_n (lv' := [(1, .int (0 : Int32)), (0, .ref (ad 0))]) hx hb dX7_frees_1 rfl hl (by decide) rfl (fun ls hl => ?_)
  refine lv_iconst (v := (0 : Int32)) hx hb dX7_frees_2 (by decide) ?_
  refine lv_istore_n (lv' := [(2, .int (0 : Int32)), (1, .int (0 : Int32)), (0, .ref (ad 0))]) hx hb dX7_frees_3 rfl hl (by decide) rfl (fun ls hl => ?_)
  have hP : va_P g.1 az_cl (az_cM g ad V) _ := hP
  have hD : va_D A (az_cM g ad V) := hD
  exact hL4 az_fuel (0 : Int32) (0 : Int32) _ _ ls h hP hD hS (lv_sub hl [2, 1, 0] rfl)

def FX7_leftIn (V : az_St) (x1 : Int32) : Option (Int32) := if az_in ((8 : Int32) + x1) 1036 = true then if (V 0) ((8 : Int32) + x1).toNatClampNeg = (-1 : Int32) then (some ((0 : Int32))) else ((FX7_ofSegment V ((V 0) ((8 : Int32) + x1).toNatClampNeg) (1 : Int32)).bind (fun o34 => some (((V 0) (1 : Int32).toNatClampNeg) - o34))) else none
theorem inX7_leftIn_RX7 : ∀ w ∈ wsX70, w ∈ wsX7_leftIn := az_inr [7, 8, 9, 10, 11] (by decide +kernel)
set_option maxHeartbeats 4000000 in
set_option maxRecDepth 100000 in
theorem kX7_leftIn (l : Launch) (g : az_G) (ad : Nat → Nat) (V : az_St) (x1 : Int32) (o : Int32) (h : FX7_leftIn V x1 = some o) : az_I l yX7_leftIn wsX7_leftIn ({ frames := 1, cells := 0, slots := 0, locals := 22 } : Room) [.ref (ad 0), .int x1] g (az_cM g ad V) o (az_cM g ad V) := by
  refine az_body (cc := cX7_leftIn) (maxL := 2) (ret := (some .int)) (Qc := fun A => az_QI g (az_cM g ad V) o A) (by decide +kernel) rfl (Nat.le_of_ble_eq_true rfl) ?_
  intro p e s m args below meth c A hx hb hr hts hown hml hlocks hA hK hP hD hS ls hl
  have hl : lv_has ls 2 [(0, .ref (ad 0)), (1, .int x1)] := hl
  unfold FX7_leftIn at h
  refine lv_aload_n hx hb dX7_leftIn_0 rfl (lv_at hl 0 rfl) ?_
  refine va_get (D := g.1) (ci := 7) (v := .ref (ad 1)) (C := RX7) (T := TX7) (N := 5) hx hb hts inX7_leftIn_RX7 hown hK hP 0 rfl rfl 0 (Nat.le_of_ble_eq_true rfl) (hts _ (List.mem_of_getElem? (i := 1) rfl)) (fun _ h9 => h9) rfl dX7_leftIn_1 ?_
  refine lv_bipush (v := (8 : Int32)) hx hb dX7_leftIn_4 (by decide) ?_
  refine lv_iload_n hx hb dX7_leftIn_6 rfl (lv_at hl 1 rfl) ?_
  refine lv_iadd hx hb dX7_leftIn_7 ?_
  obtain ⟨i8, h⟩ := az_ite h
  refine va_iald (D := g.1) (f := (V 0)) hx hb hK hP 1 0 rfl rfl (az_vin i8) dX7_leftIn_8 ?_
  refine lv_iconst (v := (-1 : Int32)) hx hb dX7_leftIn_9 (by decide) ?_
  refine lv_icmp_ne (tgt := 17) hx hb dX7_leftIn_10 (by decide) (fun c10 => ?_) (fun c10 => ?_)
  · replace h := az_neg c10 h
    refine lv_aload_n hx hb dX7_leftIn_17 rfl (lv_at hl 0 rfl) ?_
    refine va_get (D := g.1) (ci := 7) (v := .ref (ad 1)) (C := RX7) (T := TX7) (N := 5) hx hb hts inX7_leftIn_RX7 hown hK hP 0 rfl rfl 0 (Nat.le_of_ble_eq_true rfl) (hts _ (List.mem_of_getElem? (i := 1) rfl)) (fun _ h9 => h9) rfl dX7_leftIn_18 ?_
    refine lv_iconst (v := (1 : Int32)) hx hb dX7_leftIn_21 (by decide) ?_
    refine va_iald (D := g.1) (f := (V 0)) hx hb hK hP 1 0 rfl rfl (az_vin (by decide +kernel)) dX7_leftIn_22 ?_
    refine lv_aload_n hx hb dX7_leftIn_23 rfl (lv_at hl 0 rfl) ?_
    refine lv_aload_n hx hb dX7_leftIn_24 rfl (lv_at hl 0 rfl) ?_
    refine va_get (D := g.1) (ci := 7) (v := .ref (ad 1)) (C := RX7) (T := TX7) (N := 5) hx hb hts inX7_leftIn_RX7 hown hK hP 0 rfl rfl 0 (Nat.le_of_ble_eq_true rfl) (hts _ (List.mem_of_getElem? (i := 1) rfl)) (fun _ h9 => h9) rfl dX7_leftIn_25 ?_
    refine lv_bipush (v := (8 : Int32)) hx hb dX7_leftIn_28 (by decide) ?_
    refine lv_iload_n hx hb dX7_leftIn_30 rfl (lv_at hl 1 rfl) ?_
    refine lv_iadd hx hb dX7_leftIn_31 ?_
    refine va_iald (D := g.1) (f := (V 0)) hx hb hK hP 1 0 rfl rfl (az_vin i8) dX7_leftIn_32 ?_
    refine lv_iconst (v := (1 : Int32)) hx hb dX7_leftIn_33 (by decide) ?_
    obtain ⟨o34, hc34, h⟩ := az_bnd h
    refine az_callVi (w2 := az_cM g ad V) (As := [.int ((V 0) ((8 : Int32) + x1).toNatClampNeg), .int (1 : Int32)]) (rest := [.int ((V 0) (1 : Int32).toNatClampNeg)]) ⟨hx, hb, hml, hown, hts⟩ hl.1 (kX7_ofSegment l g ad V ((V 0) ((8 : Int32) + x1).toNatClampNeg) (1 : Int32) o34 hc34) (cwV 2 hts gX7_leftIn_X7_ofSegment rfl rfl rfl (by decide +kernel) ⟨Nat.le_of_ble_eq_true rfl, Nat.le_of_ble_eq_true rfl⟩) rfl hK hP hD hS hA [0, 1, 2, 3] [] [0, 1, 2, 3] rfl rfl rfl rfl rfl (by decide) rfl rfl rfl 0 rfl rfl rfl (Nat.le_of_ble_eq_true rfl) dX7_leftIn_34 ⟨Nat.zero_le _, Nat.zero_le _⟩ rfl (fun H locs hP hD hS => ?_)
    refine lv_isub hx hb dX7_leftIn_37 ?_
    have hP : va_P g.1 az_cl (az_cM g ad V) _ := hP
    have hD : va_D A (az_cM g ad V) := hD
    rw [← Option.some.inj h]
    exact az_iret hx hb hr hlocks hK hP hD hS dX7_leftIn_38
  · replace h := az_pos c10 h
    refine lv_iconst (v := (0 : Int32)) hx hb dX7_leftIn_13 (by decide) ?_
    refine lv_goto (tgt := 38) hx hb dX7_leftIn_14 (by decide) ?_
    have hP : va_P g.1 az_cl (az_cM g ad V) _ := hP
    have hD : va_D A (az_cM g ad V) := hD
    rw [← Option.some.inj h]
    exact az_iret hx hb hr hlocks hK hP hD hS dX7_leftIn_38

def FX7_freshest_L4 : Nat → az_St → Int32 → Int32 → Option (Int32)
  | 0, _, _, _ => none
  | n + 1, V, y1, y2 => if (V 0) (0 : Int32).toNatClampNeg ≤ y2 then (some (y1)) else ((FX7_ofSegment V y2 (0 : Int32)).bind (fun o17 => if o17 = (0 : Int32) then (if y1 = (-1 : Int32) then (FX7_freshest_L4 n V y2 (y2 + (1 : Int32))) else ((FX7_ofSegment V y2 (2 : Int32)).bind (fun o31 => (FX7_ofSegment V y1 (2 : Int32)).bind (fun o37 => if o37 ≤ o31 then (FX7_freshest_L4 n V y1 (y2 + (1 : Int32))) else (FX7_freshest_L4 n V y2 (y2 + (1 : Int32))))))) else (FX7_freshest_L4 n V y1 (y2 + (1 : Int32)))))
theorem FX7_freshest_L4_s (n : Nat) (V : az_St) (y1 : Int32) (y2 : Int32) : FX7_freshest_L4 (n + 1) V y1 y2 = (if (V 0) (0 : Int32).toNatClampNeg ≤ y2 then (some (y1)) else ((FX7_ofSegment V y2 (0 : Int32)).bind (fun o17 => if o17 = (0 : Int32) then (if y1 = (-1 : Int32) then (FX7_freshest_L4 n V y2 (y2 + (1 : Int32))) else ((FX7_ofSegment V y2 (2 : Int32)).bind (fun o31 => (FX7_ofSegment V y1 (2 : Int32)).bind (fun o37 => if o37 ≤ o31 then (FX7_freshest_L4 n V y1 (y2 + (1 : Int32))) else (FX7_freshest_L4 n V y2 (y2 + (1 : Int32))))))) else (FX7_freshest_L4 n V y1 (y2 + (1 : Int32)))))) := rfl
def FX7_freshest (V : az_St) : Option (Int32) := FX7_freshest_L4 az_fuel V (-1 : Int32) (0 : Int32)
theorem inX7_freshest_RX7 : ∀ w ∈ wsX70, w ∈ wsX7_freshest := az_inr [7, 8, 9, 10, 11] (by decide +kernel)
set_option maxHeartbeats 4000000 in
set_option maxRecDepth 100000 in
theorem kX7_freshest (l : Launch) (g : az_G) (ad : Nat → Nat) (V : az_St) (o : Int32) (h : FX7_freshest V = some o) : az_I l yX7_freshest wsX7_freshest ({ frames := 1, cells := 0, slots := 0, locals := 22 } : Room) [.ref (ad 0)] g (az_cM g ad V) o (az_cM g ad V) := by
  refine az_body (cc := cX7_freshest) (maxL := 3) (ret := (some .int)) (Qc := fun A => az_QI g (az_cM g ad V) o A) (by decide +kernel) rfl (Nat.le_of_ble_eq_true rfl) ?_
  intro p e s m args below meth c A hx hb hr hts hown hml hlocks hA hK hP hD hS ls hl
  have hl : lv_has ls 3 [(0, .ref (ad 0))] := hl
  unfold FX7_freshest at h
  have hL4 : ∀ (n : Nat) (y1 : Int32) (y2 : Int32) (H : Heap) (locs : List Loc) (ls : Array Slot), FX7_freshest_L4 n V y1 y2 = some o → va_P g.1 az_cl (az_cM g ad V) H → va_D A (az_cM g ad V) → va_S A s.heap H locs → lv_has ls 3 [(0, .ref (ad 0)), (1, .int y1), (2, .int y2)] → W p l e ({ frames := 1, cells := 0, slots := 0, locals := 22 } : Room) s m args below meth c H locs 0 0 (MQ below (az_QI g (az_cM g ad V) o A) args s 0 0 A) (F0 m 4 ls []) := by
    intro n
    induction n with
    | zero => intro y1 y2 H locs ls h; exact az_non h
    | succ n ih =>
      intro y1 y2 H locs ls h hP hD hS hl
      rw [FX7_freshest_L4_s] at h
      refine lv_iload_n hx hb dX7_freshest_4 rfl (lv_at hl 2 rfl) ?_
      refine lv_aload_n hx hb dX7_freshest_5 rfl (lv_at hl 0 rfl) ?_
      refine va_get (D := g.1) (ci := 7) (v := .ref (ad 1)) (C := RX7) (T := TX7) (N := 5) hx hb hts inX7_freshest_RX7 hown hK hP 0 rfl rfl 0 (Nat.le_of_ble_eq_true rfl) (hts _ (List.mem_of_getElem? (i := 1) rfl)) (fun _ h9 => h9) rfl dX7_freshest_6 ?_
      refine lv_iconst (v := (0 : Int32)) hx hb dX7_freshest_9 (by decide) ?_
      refine va_iald (D := g.1) (f := (V 0)) hx hb hK hP 1 0 rfl rfl (az_vin (by decide +kernel)) dX7_freshest_10 ?_
      refine lv_icmp_ge (tgt := 51) hx hb dX7_freshest_11 (by decide) (fun c11 => ?_) (fun c11 => ?_)
      · replace h := az_pos c11 h
        refine lv_iload_n hx hb dX7_freshest_51 rfl (lv_at hl 1 rfl) ?_
        have hP : va_P g.1 az_cl (az_cM g ad V) _ := hP
        have hD : va_D A (az_cM g ad V) := hD
        rw [← Option.some.inj h]
        exact az_iret hx hb hr hlocks hK hP hD hS dX7_freshest_52
      · replace h := az_neg c11 h
        refine lv_aload_n hx hb dX7_freshest_14 rfl (lv_at hl 0 rfl) ?_
        refine lv_iload_n hx hb dX7_freshest_15 rfl (lv_at hl 2 rfl) ?_
        refine lv_iconst (v := (0 : Int32)) hx hb dX7_freshest_16 (by decide) ?_
        obtain ⟨o17, hc17, h⟩ := az_bnd h
        refine az_callVi (w2 := az_cM g ad V) (As := [.int y2, .int (0 : Int32)]) (rest := []) ⟨hx, hb, hml, hown, hts⟩ hl.1 (kX7_ofSegment l g ad V y2 (0 : Int32) o17 hc17) (cwV 2 hts gX7_freshest_X7_ofSegment rfl rfl rfl (by decide +kernel) ⟨Nat.le_of_ble_eq_true rfl, Nat.le_of_ble_eq_true rfl⟩) rfl hK hP hD hS hA [0, 1, 2, 3] [] [0, 1, 2, 3] rfl rfl rfl rfl rfl (by decide) rfl rfl rfl 0 rfl rfl rfl (Nat.le_of_ble_eq_true rfl) dX7_freshest_17 ⟨Nat.zero_le _, Nat.zero_le _⟩ rfl (fun H locs hP hD hS => ?_)
        refine lv_if_ne (tgt := 45) hx hb dX7_freshest_20 (by decide) (fun c20 => ?_) (fun c20 => ?_)
        · replace h := az_neg c20 h
          refine lv_iinc (v := y2 + (1 : Int32)) (lv' := [(2, .int (y2 + (1 : Int32))), (0, .ref (ad 0)), (1, .int y1)]) hx hb dX7_freshest_45 hl (k := 2) rfl (rfl) (by decide) rfl (fun ls hl => ?_)
          refine lv_goto (tgt := 4) hx hb dX7_freshest_48 (by decide) ?_
          have hP : va_P g.1 az_cl (az_cM g ad V) _ := hP
          have hD : va_D A (az_cM g ad V) := hD
          exact ih y1 (y2 + (1 : Int32)) _ _ ls h hP hD hS (lv_sub hl [1, 2, 0] rfl)
        · replace h := az_pos c20 h
          refine lv_iload_n hx hb dX7_freshest_23 rfl (lv_at hl 1 rfl) ?_
          refine lv_iconst (v := (-1 : Int32)) hx hb dX7_freshest_24 (by decide) ?_
          refine lv_icmp_eq (tgt := 43) hx hb dX7_freshest_25 (by decide) (fun c25 => ?_) (fun c25 => ?_)
          · replace h := az_pos c25 h
            refine lv_iload_n hx hb dX7_freshest_43 rfl (lv_at hl 2 rfl) ?_
            refine lv_istore_n (lv' := [(1, .int y2), (0, .ref (ad 0)), (2, .int y2)]) hx hb dX7_freshest_44 rfl hl (by decide) rfl (fun ls hl => ?_)
            refine lv_iinc (v := y2 + (1 : Int32)) (lv' := [(2, .int (y2 + (1 : Int32))), (1, .int y2), (0, .ref (ad 0))]) hx hb dX7_freshest_45 hl (k := 2) rfl (rfl) (by decide) rfl (fun ls hl => ?_)
            refine lv_goto (tgt := 4) hx hb dX7_freshest_48 (by decide) ?_
            have hP : va_P g.1 az_cl (az_cM g ad V) _ := hP
            have hD : va_D A (az_cM g ad V) := hD
            exact ih y2 (y2 + (1 : Int32)) _ _ ls h hP hD hS (lv_sub hl [2, 1, 0] rfl)
          · replace h := az_neg c25 h
            refine lv_aload_n hx hb dX7_freshest_28 rfl (lv_at hl 0 rfl) ?_
            refine lv_iload_n hx hb dX7_freshest_29 rfl (lv_at hl 2 rfl) ?_
            refine lv_iconst (v := (2 : Int32)) hx hb dX7_freshest_30 (by decide) ?_
            obtain ⟨o31, hc31, h⟩ := az_bnd h
            refine az_callVi (w2 := az_cM g ad V) (As := [.int y2, .int (2 : Int32)]) (rest := []) ⟨hx, hb, hml, hown, hts⟩ hl.1 (kX7_ofSegment l g ad V y2 (2 : Int32) o31 hc31) (cwV 2 hts gX7_freshest_X7_ofSegment rfl rfl rfl (by decide +kernel) ⟨Nat.le_of_ble_eq_true rfl, Nat.le_of_ble_eq_true rfl⟩) rfl hK hP hD hS hA [0, 1, 2, 3] [] [0, 1, 2, 3] rfl rfl rfl rfl rfl (by decide) rfl rfl rfl 0 rfl rfl rfl (Nat.le_of_ble_eq_true rfl) dX7_freshest_31 ⟨Nat.zero_le _, Nat.zero_le _⟩ rfl (fun H locs hP hD hS => ?_)
            refine lv_aload_n hx hb dX7_freshest_34 rfl (lv_at hl 0 rfl) ?_
            refine lv_iload_n hx hb dX7_freshest_35 rfl (lv_at hl 1 rfl) ?_
            refine lv_iconst (v := (2 : Int32)) hx hb dX7_freshest_36 (by decide) ?_
            obtain ⟨o37, hc37, h⟩ := az_bnd h
            refine az_callVi (w2 := az_cM g ad V) (As := [.int y1, .int (2 : Int32)]) (rest := [.int o31]) ⟨hx, hb, hml, hown, hts⟩ hl.1 (kX7_ofSegment l g ad V y1 (2 : Int32) o37 hc37) (cwV 2 hts gX7_freshest_X7_ofSegment rfl rfl rfl (by decide +kernel) ⟨Nat.le_of_ble_eq_true rfl, Nat.le_of_ble_eq_true rfl⟩) rfl hK hP hD hS hA [0, 1, 2, 3] [] [0, 1, 2, 3] rfl rfl rfl rfl rfl (by decide) rfl rfl rfl 0 rfl rfl rfl (Nat.le_of_ble_eq_true rfl) dX7_freshest_37 ⟨Nat.zero_le _, Nat.zero_le _⟩ rfl (fun H locs hP hD hS => ?_)
            refine lv_icmp_ge (tgt := 45) hx hb dX7_freshest_40 (by decide) (fun c40 => ?_) (fun c40 => ?_)
            · replace h := az_pos c40 h
              refine lv_iinc (v := y2 + (1 : Int32)) (lv' := [(2, .int (y2 + (1 : Int32))), (0, .ref (ad 0)), (1, .int y1)]) hx hb dX7_freshest_45 hl (k := 2) rfl (rfl) (by decide) rfl (fun ls hl => ?_)
              refine lv_goto (tgt := 4) hx hb dX7_freshest_48 (by decide) ?_
              have hP : va_P g.1 az_cl (az_cM g ad V) _ := hP
              have hD : va_D A (az_cM g ad V) := hD
              exact ih y1 (y2 + (1 : Int32)) _ _ ls h hP hD hS (lv_sub hl [1, 2, 0] rfl)
            · replace h := az_neg c40 h
              refine lv_iload_n hx hb dX7_freshest_43 rfl (lv_at hl 2 rfl) ?_
              refine lv_istore_n (lv' := [(1, .int y2), (0, .ref (ad 0)), (2, .int y2)]) hx hb dX7_freshest_44 rfl hl (by decide) rfl (fun ls hl => ?_)
              refine lv_iinc (v := y2 + (1 : Int32)) (lv' := [(2, .int (y2 + (1 : Int32))), (1, .int y2), (0, .ref (ad 0))]) hx hb dX7_freshest_45 hl (k := 2) rfl (rfl) (by decide) rfl (fun ls hl => ?_)
              refine lv_goto (tgt := 4) hx hb dX7_freshest_48 (by decide) ?_
              have hP : va_P g.1 az_cl (az_cM g ad V) _ := hP
              have hD : va_D A (az_cM g ad V) := hD
              exact ih y2 (y2 + (1 : Int32)) _ _ ls h hP hD hS (lv_sub hl [2, 1, 0] rfl)
  refine lv_iconst (v := (-1 : Int32)) hx hb dX7_freshest_0 (by decide) ?_
  refine lv_istore_n (lv' := [(1, .int (-1 : Int32)), (0, .ref (ad 0))]) hx hb dX7_freshest_1 rfl hl (by decide) rfl (fun ls hl => ?_)
  refine lv_iconst (v := (0 : Int32)) hx hb dX7_freshest_2 (by decide) ?_
  refine lv_istore_n (lv' := [(2, .int (0 : Int32)), (1, .int (-1 : Int32)), (0, .ref (ad 0))]) hx hb dX7_freshest_3 rfl hl (by decide) rfl (fun ls hl => ?_)
  have hP : va_P g.1 az_cl (az_cM g ad V) _ := hP
  have hD : va_D A (az_cM g ad V) := hD
  exact hL4 az_fuel (-1 : Int32) (0 : Int32) _ _ ls h hP hD hS (lv_sub hl [2, 1, 0] rfl)

def FX7_appends (V : az_St) (x1 : Int32) (x2 : Int32) (x3 : Int32) (x4 : Int32) (x5 : Int32) : Option (Int32 × (Nat → Int32)) := if az_in ((8 : Int32) + x1) 1036 = true then if (V 0) ((8 : Int32) + x1).toNatClampNeg = (-1 : Int32) then ((FX7_freshest V).bind (fun o22 => az_lt (upd (V 0) ((8 : Int32) + x1).toNatClampNeg o22) (fun u25 => (FX7_setSegment (va_up V 0 u25) (u25 ((8 : Int32) + x1).toNatClampNeg) (0 : Int32) (1 : Int32)).bind (fun o38 => (FX7_ofSegment (va_up V 0 o38) (o38 ((8 : Int32) + x1).toNatClampNeg) (1 : Int32)).bind (fun o61 => az_lt (((16 : Int32) * (o38 ((8 : Int32) + x1).toNatClampNeg)) + o61) (fun z65 => (FX7_ofSegment (va_up V 0 o38) (o38 ((8 : Int32) + x1).toNatClampNeg) (1 : Int32)).bind (fun o75 => (FX7_setSegment (va_up V 0 o38) (o38 ((8 : Int32) + x1).toNatClampNeg) (1 : Int32) (o75 + (1 : Int32))).bind (fun o80 => (FX7_setBlock (va_up V 0 o80) z65 (0 : Int32) x5).bind (fun o89 => (FX7_setBlock (va_up V 0 o89) z65 (1 : Int32) x2).bind (fun o97 => (FX7_setBlock (va_up V 0 o97) z65 (2 : Int32) x3).bind (fun o105 => (FX7_setBlock (va_up V 0 o105) z65 (3 : Int32) x4).bind (fun o114 => (FX7_ofSegment (va_up V 0 o114) (o38 ((8 : Int32) + x1).toNatClampNeg) (1 : Int32)).bind (fun o121 => if o121 = o114 (1 : Int32).toNatClampNeg then ((FX7_setSegment (va_up V 0 o114) (o38 ((8 : Int32) + x1).toNatClampNeg) (0 : Int32) (2 : Int32)).bind (fun o138 => az_lt (upd o138 ((8 : Int32) + x1).toNatClampNeg (-1 : Int32)) (fun u150 => some (z65, u150)))) else (some (z65, o114))))))))))))))) else ((FX7_ofSegment V ((V 0) ((8 : Int32) + x1).toNatClampNeg) (1 : Int32)).bind (fun o61 => az_lt (((16 : Int32) * ((V 0) ((8 : Int32) + x1).toNatClampNeg)) + o61) (fun z65 => (FX7_ofSegment V ((V 0) ((8 : Int32) + x1).toNatClampNeg) (1 : Int32)).bind (fun o75 => (FX7_setSegment V ((V 0) ((8 : Int32) + x1).toNatClampNeg) (1 : Int32) (o75 + (1 : Int32))).bind (fun o80 => (FX7_setBlock (va_up V 0 o80) z65 (0 : Int32) x5).bind (fun o89 => (FX7_setBlock (va_up V 0 o89) z65 (1 : Int32) x2).bind (fun o97 => (FX7_setBlock (va_up V 0 o97) z65 (2 : Int32) x3).bind (fun o105 => (FX7_setBlock (va_up V 0 o105) z65 (3 : Int32) x4).bind (fun o114 => (FX7_ofSegment (va_up V 0 o114) ((V 0) ((8 : Int32) + x1).toNatClampNeg) (1 : Int32)).bind (fun o121 => if o121 = o114 (1 : Int32).toNatClampNeg then ((FX7_setSegment (va_up V 0 o114) ((V 0) ((8 : Int32) + x1).toNatClampNeg) (0 : Int32) (2 : Int32)).bind (fun o138 => az_lt (upd o138 ((8 : Int32) + x1).toNatClampNeg (-1 : Int32)) (fun u150 => some (z65, u150)))) else (some (z65, o114)))))))))))) else none
theorem inX7_appends_RX7 : ∀ w ∈ wsX70, w ∈ wsX7_appends := az_inr [19, 20, 21, 22, 23] (by decide +kernel)
set_option maxHeartbeats 4000000 in
set_option maxRecDepth 100000 in
theorem kX7_appends (l : Launch) (g : az_G) (ad : Nat → Nat) (V : az_St) (x1 : Int32) (x2 : Int32) (x3 : Int32) (x4 : Int32) (x5 : Int32) (o : Int32 × (Nat → Int32)) (h : FX7_appends V x1 x2 x3 x4 x5 = some o) : az_I l yX7_appends wsX7_appends ({ frames := 2, cells := 0, slots := 0, locals := 44 } : Room) [.ref (ad 0), .int x1, .int x2, .int x3, .int x4, .int x5] g (az_cM g ad V) o.1 (az_cM g ad (va_up V 0 o.2)) := by
  refine az_body (cc := cX7_appends) (maxL := 8) (ret := (some .int)) (Qc := fun A => az_QI g (az_cM g ad (va_up V 0 o.2)) o.1 A) (by decide +kernel) rfl (Nat.le_of_ble_eq_true rfl) ?_
  intro p e s m args below meth c A hx hb hr hts hown hml hlocks hA hK hP hD hS ls hl
  have hl : lv_has ls 8 [(0, .ref (ad 0)), (1, .int x1), (2, .int x2), (3, .int x3), (4, .int x4), (5, .int x5)] := hl
  unfold FX7_appends at h
  refine lv_aload_n hx hb dX7_appends_0 rfl (lv_at hl 0 rfl) ?_
  refine va_get (D := g.1) (ci := 7) (v := .ref (ad 1)) (C := RX7) (T := TX7) (N := 5) hx hb hts inX7_appends_RX7 hown hK hP 0 rfl rfl 0 (Nat.le_of_ble_eq_true rfl) (hts _ (List.mem_of_getElem? (i := 1) rfl)) (fun _ h9 => h9) rfl dX7_appends_1 ?_
  refine lv_bipush (v := (8 : Int32)) hx hb dX7_appends_4 (by decide) ?_
  refine lv_iload_n hx hb dX7_appends_6 rfl (lv_at hl 1 rfl) ?_
  refine lv_iadd hx hb dX7_appends_7 ?_
  obtain ⟨i8, h⟩ := az_ite h
  refine va_iald (D := g.1) (f := (V 0)) hx hb hK hP 1 0 rfl rfl (az_vin i8) dX7_appends_8 ?_
  refine lv_iconst (v := (-1 : Int32)) hx hb dX7_appends_9 (by decide) ?_
  refine lv_icmp_ne (tgt := 41) hx hb dX7_appends_10 (by decide) (fun c10 => ?_) (fun c10 => ?_)
  · replace h := az_neg c10 h
    refine lv_aload_n hx hb dX7_appends_41 rfl (lv_at hl 0 rfl) ?_
    refine va_get (D := g.1) (ci := 7) (v := .ref (ad 1)) (C := RX7) (T := TX7) (N := 5) hx hb hts inX7_appends_RX7 hown hK hP 0 rfl rfl 0 (Nat.le_of_ble_eq_true rfl) (hts _ (List.mem_of_getElem? (i := 1) rfl)) (fun _ h9 => h9) rfl dX7_appends_42 ?_
    refine lv_bipush (v := (8 : Int32)) hx hb dX7_appends_45 (by decide) ?_
    refine lv_iload_n hx hb dX7_appends_47 rfl (lv_at hl 1 rfl) ?_
    refine lv_iadd hx hb dX7_appends_48 ?_
    refine va_iald (D := g.1) (f := (V 0)) hx hb hK hP 1 0 rfl rfl (az_vin i8) dX7_appends_49 ?_
    refine lv_istore (lv' := [(6, .int ((V 0) ((8 : Int32) + x1).toNatClampNeg)), (0, .ref (ad 0)), (1, .int x1), (2, .int x2), (3, .int x3), (4, .int x4), (5, .int x5)]) hx hb dX7_appends_50 hl (by decide) rfl (fun ls hl => ?_)
    refine lv_bipush (v := (16 : Int32)) hx hb dX7_appends_52 (by decide) ?_
    refine lv_iload hx hb dX7_appends_54 (lv_at hl 0 rfl) ?_
    refine lv_imul hx hb dX7_appends_56 ?_
    refine lv_aload_n hx hb dX7_appends_57 rfl (lv_at hl 1 rfl) ?_
    refine lv_iload hx hb dX7_appends_58 (lv_at hl 0 rfl) ?_
    refine lv_iconst (v := (1 : Int32)) hx hb dX7_appends_60 (by decide) ?_
    obtain ⟨o61, hc61, h⟩ := az_bnd h
    refine az_callVi (w2 := az_cM g ad V) (As := [.int ((V 0) ((8 : Int32) + x1).toNatClampNeg), .int (1 : Int32)]) (rest := [.int ((16 : Int32) * ((V 0) ((8 : Int32) + x1).toNatClampNeg))]) ⟨hx, hb, hml, hown, hts⟩ hl.1 (kX7_ofSegment l g ad V ((V 0) ((8 : Int32) + x1).toNatClampNeg) (1 : Int32) o61 hc61) (cwV 2 hts gX7_appends_X7_ofSegment rfl rfl rfl (by decide +kernel) ⟨Nat.le_of_ble_eq_true rfl, Nat.le_of_ble_eq_true rfl⟩) rfl hK hP hD hS hA [0, 1, 2, 3] [] [0, 1, 2, 3] rfl rfl rfl rfl rfl (by decide) rfl rfl rfl 0 rfl rfl rfl (Nat.le_of_ble_eq_true rfl) dX7_appends_61 ⟨Nat.zero_le _, Nat.zero_le _⟩ rfl (fun H locs hP hD hS => ?_)
    refine lv_iadd hx hb dX7_appends_64 ?_
    refine lv_topi (x := ((16 : Int32) * ((V 0) ((8 : Int32) + x1).toNatClampNeg)) + o61) (fun z65 e65 => ?_)
    replace h := az_let e65 h
    refine lv_istore (lv' := [(7, .int z65), (6, .int ((V 0) ((8 : Int32) + x1).toNatClampNeg)), (0, .ref (ad 0)), (1, .int x1), (2, .int x2), (3, .int x3), (4, .int x4), (5, .int x5)]) hx hb dX7_appends_65 hl (by decide) rfl (fun ls hl => ?_)
    refine lv_aload_n hx hb dX7_appends_67 rfl (lv_at hl 2 rfl) ?_
    refine lv_iload hx hb dX7_appends_68 (lv_at hl 1 rfl) ?_
    refine lv_iconst (v := (1 : Int32)) hx hb dX7_appends_70 (by decide) ?_
    refine lv_aload_n hx hb dX7_appends_71 rfl (lv_at hl 2 rfl) ?_
    refine lv_iload hx hb dX7_appends_72 (lv_at hl 1 rfl) ?_
    refine lv_iconst (v := (1 : Int32)) hx hb dX7_appends_74 (by decide) ?_
    obtain ⟨o75, hc75, h⟩ := az_bnd h
    refine az_callVi (w2 := az_cM g ad V) (As := [.int ((V 0) ((8 : Int32) + x1).toNatClampNeg), .int (1 : Int32)]) (rest := [.int (1 : Int32), .int ((V 0) ((8 : Int32) + x1).toNatClampNeg), .ref (ad 0)]) ⟨hx, hb, hml, hown, hts⟩ hl.1 (kX7_ofSegment l g ad V ((V 0) ((8 : Int32) + x1).toNatClampNeg) (1 : Int32) o75 hc75) (cwV 2 hts gX7_appends_X7_ofSegment rfl rfl rfl (by decide +kernel) ⟨Nat.le_of_ble_eq_true rfl, Nat.le_of_ble_eq_true rfl⟩) rfl hK hP hD hS hA [0, 1, 2, 3] [] [0, 1, 2, 3] rfl rfl rfl rfl rfl (by decide) rfl rfl rfl 0 rfl rfl rfl (Nat.le_of_ble_eq_true rfl) dX7_appends_75 ⟨Nat.zero_le _, Nat.zero_le _⟩ rfl (fun H locs hP hD hS => ?_)
    refine lv_iconst (v := (1 : Int32)) hx hb dX7_appends_78 (by decide) ?_
    refine lv_iadd hx hb dX7_appends_79 ?_
    obtain ⟨o80, hc80, h⟩ := az_bnd h
    refine az_callVv (w2 := az_cM g ad (va_up V 0 o80)) (As := [.int ((V 0) ((8 : Int32) + x1).toNatClampNeg), .int (1 : Int32), .int (o75 + (1 : Int32))]) (rest := []) ⟨hx, hb, hml, hown, hts⟩ hl.1 (kX7_setSegment l g ad V ((V 0) ((8 : Int32) + x1).toNatClampNeg) (1 : Int32) (o75 + (1 : Int32)) o80 hc80) (cwV 3 hts gX7_appends_X7_setSegment rfl rfl rfl (by decide +kernel) ⟨Nat.le_of_ble_eq_true rfl, Nat.le_of_ble_eq_true rfl⟩) rfl hK hP hD hS hA [0, 1, 2, 3] [] [0, 1, 2, 3] rfl rfl rfl rfl rfl (by decide) rfl rfl rfl 0 rfl rfl rfl (Nat.le_of_ble_eq_true rfl) dX7_appends_80 ⟨Nat.zero_le _, Nat.zero_le _⟩ rfl (fun H locs hP hD hS => ?_)
    refine lv_aload_n hx hb dX7_appends_83 rfl (lv_at hl 2 rfl) ?_
    refine lv_iload hx hb dX7_appends_84 (lv_at hl 0 rfl) ?_
    refine lv_iconst (v := (0 : Int32)) hx hb dX7_appends_86 (by decide) ?_
    refine lv_iload hx hb dX7_appends_87 (lv_at hl 7 rfl) ?_
    obtain ⟨o89, hc89, h⟩ := az_bnd h
    refine az_callVv (w2 := az_cM g ad (va_up V 0 o89)) (As := [.int z65, .int (0 : Int32), .int x5]) (rest := []) ⟨hx, hb, hml, hown, hts⟩ hl.1 (kX7_setBlock l g ad (va_up V 0 o80) z65 (0 : Int32) x5 o89 hc89) (cwV 3 hts gX7_appends_X7_setBlock rfl rfl rfl (by decide +kernel) ⟨Nat.le_of_ble_eq_true rfl, Nat.le_of_ble_eq_true rfl⟩) rfl hK hP hD hS hA [0, 1, 2, 3] [] [0, 1, 2, 3] rfl rfl rfl rfl rfl (by decide) rfl rfl rfl 0 rfl rfl rfl (Nat.le_of_ble_eq_true rfl) dX7_appends_89 ⟨Nat.zero_le _, Nat.zero_le _⟩ rfl (fun H locs hP hD hS => ?_)
    refine lv_aload_n hx hb dX7_appends_92 rfl (lv_at hl 2 rfl) ?_
    refine lv_iload hx hb dX7_appends_93 (lv_at hl 0 rfl) ?_
    refine lv_iconst (v := (1 : Int32)) hx hb dX7_appends_95 (by decide) ?_
    refine lv_iload_n hx hb dX7_appends_96 rfl (lv_at hl 4 rfl) ?_
    obtain ⟨o97, hc97, h⟩ := az_bnd h
    refine az_callVv (w2 := az_cM g ad (va_up V 0 o97)) (As := [.int z65, .int (1 : Int32), .int x2]) (rest := []) ⟨hx, hb, hml, hown, hts⟩ hl.1 (kX7_setBlock l g ad (va_up V 0 o89) z65 (1 : Int32) x2 o97 hc97) (cwV 3 hts gX7_appends_X7_setBlock rfl rfl rfl (by decide +kernel) ⟨Nat.le_of_ble_eq_true rfl, Nat.le_of_ble_eq_true rfl⟩) rfl hK hP hD hS hA [0, 1, 2, 3] [] [0, 1, 2, 3] rfl rfl rfl rfl rfl (by decide) rfl rfl rfl 0 rfl rfl rfl (Nat.le_of_ble_eq_true rfl) dX7_appends_97 ⟨Nat.zero_le _, Nat.zero_le _⟩ rfl (fun H locs hP hD hS => ?_)
    refine lv_aload_n hx hb dX7_appends_100 rfl (lv_at hl 2 rfl) ?_
    refine lv_iload hx hb dX7_appends_101 (lv_at hl 0 rfl) ?_
    refine lv_iconst (v := (2 : Int32)) hx hb dX7_appends_103 (by decide) ?_
    refine lv_iload_n hx hb dX7_appends_104 rfl (lv_at hl 5 rfl) ?_
    obtain ⟨o105, hc105, h⟩ := az_bnd h
    refine az_callVv (w2 := az_cM g ad (va_up V 0 o105)) (As := [.int z65, .int (2 : Int32), .int x3]) (rest := []) ⟨hx, hb, hml, hown, hts⟩ hl.1 (kX7_setBlock l g ad (va_up V 0 o97) z65 (2 : Int32) x3 o105 hc105) (cwV 3 hts gX7_appends_X7_setBlock rfl rfl rfl (by decide +kernel) ⟨Nat.le_of_ble_eq_true rfl, Nat.le_of_ble_eq_true rfl⟩) rfl hK hP hD hS hA [0, 1, 2, 3] [] [0, 1, 2, 3] rfl rfl rfl rfl rfl (by decide) rfl rfl rfl 0 rfl rfl rfl (Nat.le_of_ble_eq_true rfl) dX7_appends_105 ⟨Nat.zero_le _, Nat.zero_le _⟩ rfl (fun H locs hP hD hS => ?_)
    refine lv_aload_n hx hb dX7_appends_108 rfl (lv_at hl 2 rfl) ?_
    refine lv_iload hx hb dX7_appends_109 (lv_at hl 0 rfl) ?_
    refine lv_iconst (v := (3 : Int32)) hx hb dX7_appends_111 (by decide) ?_
    refine lv_iload hx hb dX7_appends_112 (lv_at hl 6 rfl) ?_
    obtain ⟨o114, hc114, h⟩ := az_bnd h
    refine az_callVv (w2 := az_cM g ad (va_up V 0 o114)) (As := [.int z65, .int (3 : Int32), .int x4]) (rest := []) ⟨hx, hb, hml, hown, hts⟩ hl.1 (kX7_setBlock l g ad (va_up V 0 o105) z65 (3 : Int32) x4 o114 hc114) (cwV 3 hts gX7_appends_X7_setBlock rfl rfl rfl (by decide +kernel) ⟨Nat.le_of_ble_eq_true rfl, Nat.le_of_ble_eq_true rfl⟩) rfl hK hP hD hS hA [0, 1, 2, 3] [] [0, 1, 2, 3] rfl rfl rfl rfl rfl (by decide) rfl rfl rfl 0 rfl rfl rfl (Nat.le_of_ble_eq_true rfl) dX7_appends_114 ⟨Nat.zero_le _, Nat.zero_le _⟩ rfl (fun H locs hP hD hS => ?_)
    refine lv_aload_n hx hb dX7_appends_117 rfl (lv_at hl 2 rfl) ?_
    refine lv_iload hx hb dX7_appends_118 (lv_at hl 1 rfl) ?_
    refine lv_iconst (v := (1 : Int32)) hx hb dX7_appends_120 (by decide) ?_
    obtain ⟨o121, hc121, h⟩ := az_bnd h
    refine az_callVi (w2 := az_cM g ad (va_up V 0 o114)) (As := [.int ((V 0) ((8 : Int32) + x1).toNatClampNeg), .int (1 : Int32)]) (rest := []) ⟨hx, hb, hml, hown, hts⟩ hl.1 (kX7_ofSegment l g ad (va_up V 0 o114) ((V 0) ((8 : Int32) + x1).toNatClampNeg) (1 : Int32) o121 hc121) (cwV 2 hts gX7_appends_X7_ofSegment rfl rfl rfl (by decide +kernel) ⟨Nat.le_of_ble_eq_true rfl, Nat.le_of_ble_eq_true rfl⟩) rfl hK hP hD hS hA [0, 1, 2, 3] [] [0, 1, 2, 3] rfl rfl rfl rfl rfl (by decide) rfl rfl rfl 0 rfl rfl rfl (Nat.le_of_ble_eq_true rfl) dX7_appends_121 ⟨Nat.zero_le _, Nat.zero_le _⟩ rfl (fun H locs hP hD hS => ?_)
    refine lv_aload_n hx hb dX7_appends_124 rfl (lv_at hl 2 rfl) ?_
    refine va_get (D := g.1) (ci := 7) (v := .ref (ad 1)) (C := RX7) (T := TX7) (N := 5) hx hb hts inX7_appends_RX7 hown hK hP 0 rfl rfl 0 (Nat.le_of_ble_eq_true rfl) (hts _ (List.mem_of_getElem? (i := 1) rfl)) (fun _ h9 => h9) rfl dX7_appends_125 ?_
    refine lv_iconst (v := (1 : Int32)) hx hb dX7_appends_128 (by decide) ?_
    refine va_iald (D := g.1) (f := o114) hx hb hK hP 1 0 rfl rfl (az_vin (by decide +kernel)) dX7_appends_129 ?_
    refine lv_icmp_ne (tgt := 151) hx hb dX7_appends_130 (by decide) (fun c130 => ?_) (fun c130 => ?_)
    · replace h := az_neg c130 h
      refine lv_iload hx hb dX7_appends_151 (lv_at hl 0 rfl) ?_
      have hP : va_P g.1 az_cl (az_cM g ad (va_up V 0 o114)) _ := hP
      have hD : va_D A (az_cM g ad (va_up V 0 o114)) := hD
      rw [← Option.some.inj h]
      exact az_iret hx hb hr hlocks hK hP hD hS dX7_appends_153
    · replace h := az_pos c130 h
      refine lv_aload_n hx hb dX7_appends_133 rfl (lv_at hl 2 rfl) ?_
      refine lv_iload hx hb dX7_appends_134 (lv_at hl 1 rfl) ?_
      refine lv_iconst (v := (0 : Int32)) hx hb dX7_appends_136 (by decide) ?_
      refine lv_iconst (v := (2 : Int32)) hx hb dX7_appends_137 (by decide) ?_
      obtain ⟨o138, hc138, h⟩ := az_bnd h
      refine az_callVv (w2 := az_cM g ad (va_up V 0 o138)) (As := [.int ((V 0) ((8 : Int32) + x1).toNatClampNeg), .int (0 : Int32), .int (2 : Int32)]) (rest := []) ⟨hx, hb, hml, hown, hts⟩ hl.1 (kX7_setSegment l g ad (va_up V 0 o114) ((V 0) ((8 : Int32) + x1).toNatClampNeg) (0 : Int32) (2 : Int32) o138 hc138) (cwV 3 hts gX7_appends_X7_setSegment rfl rfl rfl (by decide +kernel) ⟨Nat.le_of_ble_eq_true rfl, Nat.le_of_ble_eq_true rfl⟩) rfl hK hP hD hS hA [0, 1, 2, 3] [] [0, 1, 2, 3] rfl rfl rfl rfl rfl (by decide) rfl rfl rfl 0 rfl rfl rfl (Nat.le_of_ble_eq_true rfl) dX7_appends_138 ⟨Nat.zero_le _, Nat.zero_le _⟩ rfl (fun H locs hP hD hS => ?_)
      refine lv_aload_n hx hb dX7_appends_141 rfl (lv_at hl 2 rfl) ?_
      refine va_get (D := g.1) (ci := 7) (v := .ref (ad 1)) (C := RX7) (T := TX7) (N := 5) hx hb hts inX7_appends_RX7 hown hK hP 0 rfl rfl 0 (Nat.le_of_ble_eq_true rfl) (hts _ (List.mem_of_getElem? (i := 1) rfl)) (fun _ h9 => h9) rfl dX7_appends_142 ?_
      refine lv_bipush (v := (8 : Int32)) hx hb dX7_appends_145 (by decide) ?_
      refine lv_iload_n hx hb dX7_appends_147 rfl (lv_at hl 3 rfl) ?_
      refine lv_iadd hx hb dX7_appends_148 ?_
      refine lv_iconst (v := (-1 : Int32)) hx hb dX7_appends_149 (by decide) ?_
      refine va_iast (D := g.1) (f := o138) hx hb hK hP hD hS 1 0 rfl rfl (az_vin i8) dX7_appends_150 (fun H locs hP hD hS => ?_)
      obtain ⟨u150, e150⟩ : ∃ w : Nat → Int32, w = upd o138 ((8 : Int32) + x1).toNatClampNeg (-1 : Int32) := ⟨_, rfl⟩
      have hP : va_P g.1 az_cl (az_cM g ad (va_up V 0 u150)) H := by rw [e150]; exact hP
      have hD : va_D A (az_cM g ad (va_up V 0 u150)) := by rw [e150]; exact hD
      replace h := az_let e150 h
      refine lv_iload hx hb dX7_appends_151 (lv_at hl 0 rfl) ?_
      have hP : va_P g.1 az_cl (az_cM g ad (va_up V 0 u150)) _ := hP
      have hD : va_D A (az_cM g ad (va_up V 0 u150)) := hD
      rw [← Option.some.inj h]
      exact az_iret hx hb hr hlocks hK hP hD hS dX7_appends_153
  · replace h := az_pos c10 h
    refine lv_aload_n hx hb dX7_appends_13 rfl (lv_at hl 0 rfl) ?_
    refine va_get (D := g.1) (ci := 7) (v := .ref (ad 1)) (C := RX7) (T := TX7) (N := 5) hx hb hts inX7_appends_RX7 hown hK hP 0 rfl rfl 0 (Nat.le_of_ble_eq_true rfl) (hts _ (List.mem_of_getElem? (i := 1) rfl)) (fun _ h9 => h9) rfl dX7_appends_14 ?_
    refine lv_bipush (v := (8 : Int32)) hx hb dX7_appends_17 (by decide) ?_
    refine lv_iload_n hx hb dX7_appends_19 rfl (lv_at hl 1 rfl) ?_
    refine lv_iadd hx hb dX7_appends_20 ?_
    refine lv_aload_n hx hb dX7_appends_21 rfl (lv_at hl 0 rfl) ?_
    obtain ⟨o22, hc22, h⟩ := az_bnd h
    refine az_callVi (w2 := az_cM g ad V) (As := []) (rest := [.int ((8 : Int32) + x1), .ref (ad 1)]) ⟨hx, hb, hml, hown, hts⟩ hl.1 (kX7_freshest l g ad V o22 hc22) (cwV 0 hts gX7_appends_X7_freshest rfl rfl rfl (by decide +kernel) ⟨Nat.le_of_ble_eq_true rfl, Nat.le_of_ble_eq_true rfl⟩) rfl hK hP hD hS hA [0, 1, 2, 3] [] [0, 1, 2, 3] rfl rfl rfl rfl rfl (by decide) rfl rfl rfl 0 rfl rfl rfl (Nat.le_of_ble_eq_true rfl) dX7_appends_22 ⟨Nat.zero_le _, Nat.zero_le _⟩ rfl (fun H locs hP hD hS => ?_)
    refine va_iast (D := g.1) (f := (V 0)) hx hb hK hP hD hS 1 0 rfl rfl (az_vin i8) dX7_appends_25 (fun H locs hP hD hS => ?_)
    obtain ⟨u25, e25⟩ : ∃ w : Nat → Int32, w = upd (V 0) ((8 : Int32) + x1).toNatClampNeg o22 := ⟨_, rfl⟩
    have hP : va_P g.1 az_cl (az_cM g ad (va_up V 0 u25)) H := by rw [e25]; exact hP
    have hD : va_D A (az_cM g ad (va_up V 0 u25)) := by rw [e25]; exact hD
    replace h := az_let e25 h
    refine lv_aload_n hx hb dX7_appends_26 rfl (lv_at hl 0 rfl) ?_
    refine lv_aload_n hx hb dX7_appends_27 rfl (lv_at hl 0 rfl) ?_
    refine va_get (D := g.1) (ci := 7) (v := .ref (ad 1)) (C := RX7) (T := TX7) (N := 5) hx hb hts inX7_appends_RX7 hown hK hP 0 rfl rfl 0 (Nat.le_of_ble_eq_true rfl) (hts _ (List.mem_of_getElem? (i := 1) rfl)) (fun _ h9 => h9) rfl dX7_appends_28 ?_
    refine lv_bipush (v := (8 : Int32)) hx hb dX7_appends_31 (by decide) ?_
    refine lv_iload_n hx hb dX7_appends_33 rfl (lv_at hl 1 rfl) ?_
    refine lv_iadd hx hb dX7_appends_34 ?_
    refine va_iald (D := g.1) (f := u25) hx hb hK hP 1 0 rfl rfl (az_vin i8) dX7_appends_35 ?_
    refine lv_iconst (v := (0 : Int32)) hx hb dX7_appends_36 (by decide) ?_
    refine lv_iconst (v := (1 : Int32)) hx hb dX7_appends_37 (by decide) ?_
    obtain ⟨o38, hc38, h⟩ := az_bnd h
    refine az_callVv (w2 := az_cM g ad (va_up V 0 o38)) (As := [.int (u25 ((8 : Int32) + x1).toNatClampNeg), .int (0 : Int32), .int (1 : Int32)]) (rest := []) ⟨hx, hb, hml, hown, hts⟩ hl.1 (kX7_setSegment l g ad (va_up V 0 u25) (u25 ((8 : Int32) + x1).toNatClampNeg) (0 : Int32) (1 : Int32) o38 hc38) (cwV 3 hts gX7_appends_X7_setSegment rfl rfl rfl (by decide +kernel) ⟨Nat.le_of_ble_eq_true rfl, Nat.le_of_ble_eq_true rfl⟩) rfl hK hP hD hS hA [0, 1, 2, 3] [] [0, 1, 2, 3] rfl rfl rfl rfl rfl (by decide) rfl rfl rfl 0 rfl rfl rfl (Nat.le_of_ble_eq_true rfl) dX7_appends_38 ⟨Nat.zero_le _, Nat.zero_le _⟩ rfl (fun H locs hP hD hS => ?_)
    refine lv_aload_n hx hb dX7_appends_41 rfl (lv_at hl 0 rfl) ?_
    refine va_get (D := g.1) (ci := 7) (v := .ref (ad 1)) (C := RX7) (T := TX7) (N := 5) hx hb hts inX7_appends_RX7 hown hK hP 0 rfl rfl 0 (Nat.le_of_ble_eq_true rfl) (hts _ (List.mem_of_getElem? (i := 1) rfl)) (fun _ h9 => h9) rfl dX7_appends_42 ?_
    refine lv_bipush (v := (8 : Int32)) hx hb dX7_appends_45 (by decide) ?_
    refine lv_iload_n hx hb dX7_appends_47 rfl (lv_at hl 1 rfl) ?_
    refine lv_iadd hx hb dX7_appends_48 ?_
    refine va_iald (D := g.1) (f := o38) hx hb hK hP 1 0 rfl rfl (az_vin i8) dX7_appends_49 ?_
    refine lv_istore (lv' := [(6, .int (o38 ((8 : Int32) + x1).toNatClampNeg)), (0, .ref (ad 0)), (1, .int x1), (2, .int x2), (3, .int x3), (4, .int x4), (5, .int x5)]) hx hb dX7_appends_50 hl (by decide) rfl (fun ls hl => ?_)
    refine lv_bipush (v := (16 : Int32)) hx hb dX7_appends_52 (by decide) ?_
    refine lv_iload hx hb dX7_appends_54 (lv_at hl 0 rfl) ?_
    refine lv_imul hx hb dX7_appends_56 ?_
    refine lv_aload_n hx hb dX7_appends_57 rfl (lv_at hl 1 rfl) ?_
    refine lv_iload hx hb dX7_appends_58 (lv_at hl 0 rfl) ?_
    refine lv_iconst (v := (1 : Int32)) hx hb dX7_appends_60 (by decide) ?_
    obtain ⟨o61, hc61, h⟩ := az_bnd h
    refine az_callVi (w2 := az_cM g ad (va_up V 0 o38)) (As := [.int (o38 ((8 : Int32) + x1).toNatClampNeg), .int (1 : Int32)]) (rest := [.int ((16 : Int32) * (o38 ((8 : Int32) + x1).toNatClampNeg))]) ⟨hx, hb, hml, hown, hts⟩ hl.1 (kX7_ofSegment l g ad (va_up V 0 o38) (o38 ((8 : Int32) + x1).toNatClampNeg) (1 : Int32) o61 hc61) (cwV 2 hts gX7_appends_X7_ofSegment rfl rfl rfl (by decide +kernel) ⟨Nat.le_of_ble_eq_true rfl, Nat.le_of_ble_eq_true rfl⟩) rfl hK hP hD hS hA [0, 1, 2, 3] [] [0, 1, 2, 3] rfl rfl rfl rfl rfl (by decide) rfl rfl rfl 0 rfl rfl rfl (Nat.le_of_ble_eq_true rfl) dX7_appends_61 ⟨Nat.zero_le _, Nat.zero_le _⟩ rfl (fun H locs hP hD hS => ?_)
    refine lv_iadd hx hb dX7_appends_64 ?_
    refine lv_topi (x := ((16 : Int32) * (o38 ((8 : Int32) + x1).toNatClampNeg)) + o61) (fun z65 e65 => ?_)
    replace h := az_let e65 h
    refine lv_istore (lv' := [(7, .int z65), (6, .int (o38 ((8 : Int32) + x1).toNatClampNeg)), (0, .ref (ad 0)), (1, .int x1), (2, .int x2), (3, .int x3), (4, .int x4), (5, .int x5)]) hx hb dX7_appends_65 hl (by decide) rfl (fun ls hl => ?_)
    refine lv_aload_n hx hb dX7_appends_67 rfl (lv_at hl 2 rfl) ?_
    refine lv_iload hx hb dX7_appends_68 (lv_at hl 1 rfl) ?_
    refine lv_iconst (v := (1 : Int32)) hx hb dX7_appends_70 (by decide) ?_
    refine lv_aload_n hx hb dX7_appends_71 rfl (lv_at hl 2 rfl) ?_
    refine lv_iload hx hb dX7_appends_72 (lv_at hl 1 rfl) ?_
    refine lv_iconst (v := (1 : Int32)) hx hb dX7_appends_74 (by decide) ?_
    obtain ⟨o75, hc75, h⟩ := az_bnd h
    refine az_callVi (w2 := az_cM g ad (va_up V 0 o38)) (As := [.int (o38 ((8 : Int32) + x1).toNatClampNeg), .int (1 : Int32)]) (rest := [.int (1 : Int32), .int (o38 ((8 : Int32) + x1).toNatClampNeg), .ref (ad 0)]) ⟨hx, hb, hml, hown, hts⟩ hl.1 (kX7_ofSegment l g ad (va_up V 0 o38) (o38 ((8 : Int32) + x1).toNatClampNeg) (1 : Int32) o75 hc75) (cwV 2 hts gX7_appends_X7_ofSegment rfl rfl rfl (by decide +kernel) ⟨Nat.le_of_ble_eq_true rfl, Nat.le_of_ble_eq_true rfl⟩) rfl hK hP hD hS hA [0, 1, 2, 3] [] [0, 1, 2, 3] rfl rfl rfl rfl rfl (by decide) rfl rfl rfl 0 rfl rfl rfl (Nat.le_of_ble_eq_true rfl) dX7_appends_75 ⟨Nat.zero_le _, Nat.zero_le _⟩ rfl (fun H locs hP hD hS => ?_)
    refine lv_iconst (v := (1 : Int32)) hx hb dX7_appends_78 (by decide) ?_
    refine lv_iadd hx hb dX7_appends_79 ?_
    obtain ⟨o80, hc80, h⟩ := az_bnd h
    refine az_callVv (w2 := az_cM g ad (va_up V 0 o80)) (As := [.int (o38 ((8 : Int32) + x1).toNatClampNeg), .int (1 : Int32), .int (o75 + (1 : Int32))]) (rest := []) ⟨hx, hb, hml, hown, hts⟩ hl.1 (kX7_setSegment l g ad (va_up V 0 o38) (o38 ((8 : Int32) + x1).toNatClampNeg) (1 : Int32) (o75 + (1 : Int32)) o80 hc80) (cwV 3 hts gX7_appends_X7_setSegment rfl rfl rfl (by decide +kernel) ⟨Nat.le_of_ble_eq_true rfl, Nat.le_of_ble_eq_true rfl⟩) rfl hK hP hD hS hA [0, 1, 2, 3] [] [0, 1, 2, 3] rfl rfl rfl rfl rfl (by decide) rfl rfl rfl 0 rfl rfl rfl (Nat.le_of_ble_eq_true rfl) dX7_appends_80 ⟨Nat.zero_le _, Nat.zero_le _⟩ rfl (fun H locs hP hD hS => ?_)
    refine lv_aload_n hx hb dX7_appends_83 rfl (lv_at hl 2 rfl) ?_
    refine lv_iload hx hb dX7_appends_84 (lv_at hl 0 rfl) ?_
    refine lv_iconst (v := (0 : Int32)) hx hb dX7_appends_86 (by decide) ?_
    refine lv_iload hx hb dX7_appends_87 (lv_at hl 7 rfl) ?_
    obtain ⟨o89, hc89, h⟩ := az_bnd h
    refine az_callVv (w2 := az_cM g ad (va_up V 0 o89)) (As := [.int z65, .int (0 : Int32), .int x5]) (rest := []) ⟨hx, hb, hml, hown, hts⟩ hl.1 (kX7_setBlock l g ad (va_up V 0 o80) z65 (0 : Int32) x5 o89 hc89) (cwV 3 hts gX7_appends_X7_setBlock rfl rfl rfl (by decide +kernel) ⟨Nat.le_of_ble_eq_true rfl, Nat.le_of_ble_eq_true rfl⟩) rfl hK hP hD hS hA [0, 1, 2, 3] [] [0, 1, 2, 3] rfl rfl rfl rfl rfl (by decide) rfl rfl rfl 0 rfl rfl rfl (Nat.le_of_ble_eq_true rfl) dX7_appends_89 ⟨Nat.zero_le _, Nat.zero_le _⟩ rfl (fun H locs hP hD hS => ?_)
    refine lv_aload_n hx hb dX7_appends_92 rfl (lv_at hl 2 rfl) ?_
    refine lv_iload hx hb dX7_appends_93 (lv_at hl 0 rfl) ?_
    refine lv_iconst (v := (1 : Int32)) hx hb dX7_appends_95 (by decide) ?_
    refine lv_iload_n hx hb dX7_appends_96 rfl (lv_at hl 4 rfl) ?_
    obtain ⟨o97, hc97, h⟩ := az_bnd h
    refine az_callVv (w2 := az_cM g ad (va_up V 0 o97)) (As := [.int z65, .int (1 : Int32), .int x2]) (rest := []) ⟨hx, hb, hml, hown, hts⟩ hl.1 (kX7_setBlock l g ad (va_up V 0 o89) z65 (1 : Int32) x2 o97 hc97) (cwV 3 hts gX7_appends_X7_setBlock rfl rfl rfl (by decide +kernel) ⟨Nat.le_of_ble_eq_true rfl, Nat.le_of_ble_eq_true rfl⟩) rfl hK hP hD hS hA [0, 1, 2, 3] [] [0, 1, 2, 3] rfl rfl rfl rfl rfl (by decide) rfl rfl rfl 0 rfl rfl rfl (Nat.le_of_ble_eq_true rfl) dX7_appends_97 ⟨Nat.zero_le _, Nat.zero_le _⟩ rfl (fun H locs hP hD hS => ?_)
    refine lv_aload_n hx hb dX7_appends_100 rfl (lv_at hl 2 rfl) ?_
    refine lv_iload hx hb dX7_appends_101 (lv_at hl 0 rfl) ?_
    refine lv_iconst (v := (2 : Int32)) hx hb dX7_appends_103 (by decide) ?_
    refine lv_iload_n hx hb dX7_appends_104 rfl (lv_at hl 5 rfl) ?_
    obtain ⟨o105, hc105, h⟩ := az_bnd h
    refine az_callVv (w2 := az_cM g ad (va_up V 0 o105)) (As := [.int z65, .int (2 : Int32), .int x3]) (rest := []) ⟨hx, hb, hml, hown, hts⟩ hl.1 (kX7_setBlock l g ad (va_up V 0 o97) z65 (2 : Int32) x3 o105 hc105) (cwV 3 hts gX7_appends_X7_setBlock rfl rfl rfl (by decide +kernel) ⟨Nat.le_of_ble_eq_true rfl, Nat.le_of_ble_eq_true rfl⟩) rfl hK hP hD hS hA [0, 1, 2, 3] [] [0, 1, 2, 3] rfl rfl rfl rfl rfl (by decide) rfl rfl rfl 0 rfl rfl rfl (Nat.le_of_ble_eq_true rfl) dX7_appends_105 ⟨Nat.zero_le _, Nat.zero_le _⟩ rfl (fun H locs hP hD hS => ?_)
    refine lv_aload_n hx hb dX7_appends_108 rfl (lv_at hl 2 rfl) ?_
    refine lv_iload hx hb dX7_appends_109 (lv_at hl 0 rfl) ?_
    refine lv_iconst (v := (3 : Int32)) hx hb dX7_appends_111 (by decide) ?_
    refine lv_iload hx hb dX7_appends_112 (lv_at hl 6 rfl) ?_
    obtain ⟨o114, hc114, h⟩ := az_bnd h
    refine az_callVv (w2 := az_cM g ad (va_up V 0 o114)) (As := [.int z65, .int (3 : Int32), .int x4]) (rest := []) ⟨hx, hb, hml, hown, hts⟩ hl.1 (kX7_setBlock l g ad (va_up V 0 o105) z65 (3 : Int32) x4 o114 hc114) (cwV 3 hts gX7_appends_X7_setBlock rfl rfl rfl (by decide +kernel) ⟨Nat.le_of_ble_eq_true rfl, Nat.le_of_ble_eq_true rfl⟩) rfl hK hP hD hS hA [0, 1, 2, 3] [] [0, 1, 2, 3] rfl rfl rfl rfl rfl (by decide) rfl rfl rfl 0 rfl rfl rfl (Nat.le_of_ble_eq_true rfl) dX7_appends_114 ⟨Nat.zero_le _, Nat.zero_le _⟩ rfl (fun H locs hP hD hS => ?_)
    refine lv_aload_n hx hb dX7_appends_117 rfl (lv_at hl 2 rfl) ?_
    refine lv_iload hx hb dX7_appends_118 (lv_at hl 1 rfl) ?_
    refine lv_iconst (v := (1 : Int32)) hx hb dX7_appends_120 (by decide) ?_
    obtain ⟨o121, hc121, h⟩ := az_bnd h
    refine az_callVi (w2 := az_cM g ad (va_up V 0 o114)) (As := [.int (o38 ((8 : Int32) + x1).toNatClampNeg), .int (1 : Int32)]) (rest := []) ⟨hx, hb, hml, hown, hts⟩ hl.1 (kX7_ofSegment l g ad (va_up V 0 o114) (o38 ((8 : Int32) + x1).toNatClampNeg) (1 : Int32) o121 hc121) (cwV 2 hts gX7_appends_X7_ofSegment rfl rfl rfl (by decide +kernel) ⟨Nat.le_of_ble_eq_true rfl, Nat.le_of_ble_eq_true rfl⟩) rfl hK hP hD hS hA [0, 1, 2, 3] [] [0, 1, 2, 3] rfl rfl rfl rfl rfl (by decide) rfl rfl rfl 0 rfl rfl rfl (Nat.le_of_ble_eq_true rfl) dX7_appends_121 ⟨Nat.zero_le _, Nat.zero_le _⟩ rfl (fun H locs hP hD hS => ?_)
    refine lv_aload_n hx hb dX7_appends_124 rfl (lv_at hl 2 rfl) ?_
    refine va_get (D := g.1) (ci := 7) (v := .ref (ad 1)) (C := RX7) (T := TX7) (N := 5) hx hb hts inX7_appends_RX7 hown hK hP 0 rfl rfl 0 (Nat.le_of_ble_eq_true rfl) (hts _ (List.mem_of_getElem? (i := 1) rfl)) (fun _ h9 => h9) rfl dX7_appends_125 ?_
    refine lv_iconst (v := (1 : Int32)) hx hb dX7_appends_128 (by decide) ?_
    refine va_iald (D := g.1) (f := o114) hx hb hK hP 1 0 rfl rfl (az_vin (by decide +kernel)) dX7_appends_129 ?_
    refine lv_icmp_ne (tgt := 151) hx hb dX7_appends_130 (by decide) (fun c130 => ?_) (fun c130 => ?_)
    · replace h := az_neg c130 h
      refine lv_iload hx hb dX7_appends_151 (lv_at hl 0 rfl) ?_
      have hP : va_P g.1 az_cl (az_cM g ad (va_up V 0 o114)) _ := hP
      have hD : va_D A (az_cM g ad (va_up V 0 o114)) := hD
      rw [← Option.some.inj h]
      exact az_iret hx hb hr hlocks hK hP hD hS dX7_appends_153
    · replace h := az_pos c130 h
      refine lv_aload_n hx hb dX7_appends_133 rfl (lv_at hl 2 rfl) ?_
      refine lv_iload hx hb dX7_appends_134 (lv_at hl 1 rfl) ?_
      refine lv_iconst (v := (0 : Int32)) hx hb dX7_appends_136 (by decide) ?_
      refine lv_iconst (v := (2 : Int32)) hx hb dX7_appends_137 (by decide) ?_
      obtain ⟨o138, hc138, h⟩ := az_bnd h
      refine az_callVv (w2 := az_cM g ad (va_up V 0 o138)) (As := [.int (o38 ((8 : Int32) + x1).toNatClampNeg), .int (0 : Int32), .int (2 : Int32)]) (rest := []) ⟨hx, hb, hml, hown, hts⟩ hl.1 (kX7_setSegment l g ad (va_up V 0 o114) (o38 ((8 : Int32) + x1).toNatClampNeg) (0 : Int32) (2 : Int32) o138 hc138) (cwV 3 hts gX7_appends_X7_setSegment rfl rfl rfl (by decide +kernel) ⟨Nat.le_of_ble_eq_true rfl, Nat.le_of_ble_eq_true rfl⟩) rfl hK hP hD hS hA [0, 1, 2, 3] [] [0, 1, 2, 3] rfl rfl rfl rfl rfl (by decide) rfl rfl rfl 0 rfl rfl rfl (Nat.le_of_ble_eq_true rfl) dX7_appends_138 ⟨Nat.zero_le _, Nat.zero_le _⟩ rfl (fun H locs hP hD hS => ?_)
      refine lv_aload_n hx hb dX7_appends_141 rfl (lv_at hl 2 rfl) ?_
      refine va_get (D := g.1) (ci := 7) (v := .ref (ad 1)) (C := RX7) (T := TX7) (N := 5) hx hb hts inX7_appends_RX7 hown hK hP 0 rfl rfl 0 (Nat.le_of_ble_eq_true rfl) (hts _ (List.mem_of_getElem? (i := 1) rfl)) (fun _ h9 => h9) rfl dX7_appends_142 ?_
      refine lv_bipush (v := (8 : Int32)) hx hb dX7_appends_145 (by decide) ?_
      refine lv_iload_n hx hb dX7_appends_147 rfl (lv_at hl 3 rfl) ?_
      refine lv_iadd hx hb dX7_appends_148 ?_
      refine lv_iconst (v := (-1 : Int32)) hx hb dX7_appends_149 (by decide) ?_
      refine va_iast (D := g.1) (f := o138) hx hb hK hP hD hS 1 0 rfl rfl (az_vin i8) dX7_appends_150 (fun H locs hP hD hS => ?_)
      obtain ⟨u150, e150⟩ : ∃ w : Nat → Int32, w = upd o138 ((8 : Int32) + x1).toNatClampNeg (-1 : Int32) := ⟨_, rfl⟩
      have hP : va_P g.1 az_cl (az_cM g ad (va_up V 0 u150)) H := by rw [e150]; exact hP
      have hD : va_D A (az_cM g ad (va_up V 0 u150)) := by rw [e150]; exact hD
      replace h := az_let e150 h
      refine lv_iload hx hb dX7_appends_151 (lv_at hl 0 rfl) ?_
      have hP : va_P g.1 az_cl (az_cM g ad (va_up V 0 u150)) _ := hP
      have hD : va_D A (az_cM g ad (va_up V 0 u150)) := hD
      rw [← Option.some.inj h]
      exact az_iret hx hb hr hlocks hK hP hD hS dX7_appends_153

def FX7_waits (V : az_St) (x1 : Int32) : Option ((Nat → Int32)) := (FX7_setBlock V x1 (0 : Int32) (3 : Int32)).bind (fun o4 => (FX7_setBlock (va_up V 0 o4) x1 (4 : Int32) (o4 (3 : Int32).toNatClampNeg)).bind (fun o16 => some (o16)))
theorem inX7_waits_RX7 : ∀ w ∈ wsX70, w ∈ wsX7_waits := az_inr [7, 8, 9, 10, 11] (by decide +kernel)
set_option maxHeartbeats 4000000 in
set_option maxRecDepth 100000 in
theorem kX7_waits (l : Launch) (g : az_G) (ad : Nat → Nat) (V : az_St) (x1 : Int32) (o : (Nat → Int32)) (h : FX7_waits V x1 = some o) : az_V l yX7_waits wsX7_waits ({ frames := 1, cells := 0, slots := 0, locals := 23 } : Room) [.ref (ad 0), .int x1] g (az_cM g ad V) (az_cM g ad (va_up V 0 o)) := by
  refine az_body (cc := cX7_waits) (maxL := 2) (ret := none) (Qc := fun A => az_QV g (az_cM g ad (va_up V 0 o)) A) (by decide +kernel) rfl (Nat.le_of_ble_eq_true rfl) ?_
  intro p e s m args below meth c A hx hb hr hts hown hml hlocks hA hK hP hD hS ls hl
  have hl : lv_has ls 2 [(0, .ref (ad 0)), (1, .int x1)] := hl
  unfold FX7_waits at h
  refine lv_aload_n hx hb dX7_waits_0 rfl (lv_at hl 0 rfl) ?_
  refine lv_iload_n hx hb dX7_waits_1 rfl (lv_at hl 1 rfl) ?_
  refine lv_iconst (v := (0 : Int32)) hx hb dX7_waits_2 (by decide) ?_
  refine lv_iconst (v := (3 : Int32)) hx hb dX7_waits_3 (by decide) ?_
  obtain ⟨o4, hc4, h⟩ := az_bnd h
  refine az_callVv (w2 := az_cM g ad (va_up V 0 o4)) (As := [.int x1, .int (0 : Int32), .int (3 : Int32)]) (rest := []) ⟨hx, hb, hml, hown, hts⟩ hl.1 (kX7_setBlock l g ad V x1 (0 : Int32) (3 : Int32) o4 hc4) (cwV 3 hts gX7_waits_X7_setBlock rfl rfl rfl (by decide +kernel) ⟨Nat.le_of_ble_eq_true rfl, Nat.le_of_ble_eq_true rfl⟩) rfl hK hP hD hS hA [0, 1, 2, 3] [] [0, 1, 2, 3] rfl rfl rfl rfl rfl (by decide) rfl rfl rfl 0 rfl rfl rfl (Nat.le_of_ble_eq_true rfl) dX7_waits_4 ⟨Nat.zero_le _, Nat.zero_le _⟩ rfl (fun H locs hP hD hS => ?_)
  refine lv_aload_n hx hb dX7_waits_7 rfl (lv_at hl 0 rfl) ?_
  refine lv_iload_n hx hb dX7_waits_8 rfl (lv_at hl 1 rfl) ?_
  refine lv_iconst (v := (4 : Int32)) hx hb dX7_waits_9 (by decide) ?_
  refine lv_aload_n hx hb dX7_waits_10 rfl (lv_at hl 0 rfl) ?_
  refine va_get (D := g.1) (ci := 7) (v := .ref (ad 1)) (C := RX7) (T := TX7) (N := 5) hx hb hts inX7_waits_RX7 hown hK hP 0 rfl rfl 0 (Nat.le_of_ble_eq_true rfl) (hts _ (List.mem_of_getElem? (i := 1) rfl)) (fun _ h9 => h9) rfl dX7_waits_11 ?_
  refine lv_iconst (v := (3 : Int32)) hx hb dX7_waits_14 (by decide) ?_
  refine va_iald (D := g.1) (f := o4) hx hb hK hP 1 0 rfl rfl (az_vin (by decide +kernel)) dX7_waits_15 ?_
  obtain ⟨o16, hc16, h⟩ := az_bnd h
  refine az_callVv (w2 := az_cM g ad (va_up V 0 o16)) (As := [.int x1, .int (4 : Int32), .int (o4 (3 : Int32).toNatClampNeg)]) (rest := []) ⟨hx, hb, hml, hown, hts⟩ hl.1 (kX7_setBlock l g ad (va_up V 0 o4) x1 (4 : Int32) (o4 (3 : Int32).toNatClampNeg) o16 hc16) (cwV 3 hts gX7_waits_X7_setBlock rfl rfl rfl (by decide +kernel) ⟨Nat.le_of_ble_eq_true rfl, Nat.le_of_ble_eq_true rfl⟩) rfl hK hP hD hS hA [0, 1, 2, 3] [] [0, 1, 2, 3] rfl rfl rfl rfl rfl (by decide) rfl rfl rfl 0 rfl rfl rfl (Nat.le_of_ble_eq_true rfl) dX7_waits_16 ⟨Nat.zero_le _, Nat.zero_le _⟩ rfl (fun H locs hP hD hS => ?_)
  have hP : va_P g.1 az_cl (az_cM g ad (va_up V 0 o16)) _ := hP
  have hD : va_D A (az_cM g ad (va_up V 0 o16)) := hD
  rw [← Option.some.inj h]
  exact az_vret hx hb hr hlocks hK hP hD hS dX7_waits_19

def FX7_inSnapshot (V : az_St) (x1 : Int32) (x2 : Int32) : Option (Int32) := if az_in (((868 : Int32) + ((24 : Int32) * x1)) + x2) 1036 = true then some ((V 0) (((868 : Int32) + ((24 : Int32) * x1)) + x2).toNatClampNeg) else none
theorem inX7_inSnapshot_RX7 : ∀ w ∈ wsX70, w ∈ wsX7_inSnapshot := az_inr [2, 3, 4, 5, 6] (by decide +kernel)
set_option maxHeartbeats 4000000 in
set_option maxRecDepth 100000 in
theorem kX7_inSnapshot (l : Launch) (g : az_G) (ad : Nat → Nat) (V : az_St) (x1 : Int32) (x2 : Int32) (o : Int32) (h : FX7_inSnapshot V x1 x2 = some o) : az_I l yX7_inSnapshot wsX7_inSnapshot ({ frames := 0, cells := 0, slots := 0, locals := 0 } : Room) [.ref (ad 0), .int x1, .int x2] g (az_cM g ad V) o (az_cM g ad V) := by
  refine az_body (cc := cX7_inSnapshot) (maxL := 3) (ret := (some .int)) (Qc := fun A => az_QI g (az_cM g ad V) o A) (by decide +kernel) rfl (Nat.le_of_ble_eq_true rfl) ?_
  intro p e s m args below meth c A hx hb hr hts hown hml hlocks hA hK hP hD hS ls hl
  have hl : lv_has ls 3 [(0, .ref (ad 0)), (1, .int x1), (2, .int x2)] := hl
  unfold FX7_inSnapshot at h
  refine lv_aload_n hx hb dX7_inSnapshot_0 rfl (lv_at hl 0 rfl) ?_
  refine va_get (D := g.1) (ci := 7) (v := .ref (ad 1)) (C := RX7) (T := TX7) (N := 5) hx hb hts inX7_inSnapshot_RX7 hown hK hP 0 rfl rfl 0 (Nat.le_of_ble_eq_true rfl) (hts _ (List.mem_of_getElem? (i := 1) rfl)) (fun _ h9 => h9) rfl dX7_inSnapshot_1 ?_
  refine lv_sipush (v := (868 : Int32)) hx hb dX7_inSnapshot_4 (by decide) ?_
  refine lv_bipush (v := (24 : Int32)) hx hb dX7_inSnapshot_7 (by decide) ?_
  refine lv_iload_n hx hb dX7_inSnapshot_9 rfl (lv_at hl 1 rfl) ?_
  refine lv_imul hx hb dX7_inSnapshot_10 ?_
  refine lv_iadd hx hb dX7_inSnapshot_11 ?_
  refine lv_iload_n hx hb dX7_inSnapshot_12 rfl (lv_at hl 2 rfl) ?_
  refine lv_iadd hx hb dX7_inSnapshot_13 ?_
  obtain ⟨i14, h⟩ := az_ite h
  refine va_iald (D := g.1) (f := (V 0)) hx hb hK hP 1 0 rfl rfl (az_vin i14) dX7_inSnapshot_14 ?_
  have hP : va_P g.1 az_cl (az_cM g ad V) _ := hP
  have hD : va_D A (az_cM g ad V) := hD
  rw [← Option.some.inj h]
  exact az_iret hx hb hr hlocks hK hP hD hS dX7_inSnapshot_15

def FX7_snapshotsOf_L12 : Nat → az_St → Int32 → Int32 → Int32 → Int32 → Option (Int32)
  | 0, _, _, _, _, _ => none
  | n + 1, V, x1, y2, y3, y4 => if (4 : Int32) ≤ y4 then (some (y2)) else ((FX7_ofBlock V x1 (0 : Int32)).bind (fun o22 => if o22 = (0 : Int32) then (FX7_snapshotsOf_L12 n V x1 (y2 ||| (0 : Int32)) y3 (y4 + (1 : Int32))) else (if az_in ((864 : Int32) + y4) 1036 = true then if (V 0) ((864 : Int32) + y4).toNatClampNeg = (1 : Int32) then ((FX7_inSnapshot V y4 y3).bind (fun o47 => if o47 = x1 then (FX7_snapshotsOf_L12 n V x1 (y2 ||| ((1 : Int32) <<< (y4 &&& 31))) y3 (y4 + (1 : Int32))) else (FX7_snapshotsOf_L12 n V x1 (y2 ||| (0 : Int32)) y3 (y4 + (1 : Int32))))) else (FX7_snapshotsOf_L12 n V x1 (y2 ||| (0 : Int32)) y3 (y4 + (1 : Int32))) else none)))
theorem FX7_snapshotsOf_L12_s (n : Nat) (V : az_St) (x1 : Int32) (y2 : Int32) (y3 : Int32) (y4 : Int32) : FX7_snapshotsOf_L12 (n + 1) V x1 y2 y3 y4 = (if (4 : Int32) ≤ y4 then (some (y2)) else ((FX7_ofBlock V x1 (0 : Int32)).bind (fun o22 => if o22 = (0 : Int32) then (FX7_snapshotsOf_L12 n V x1 (y2 ||| (0 : Int32)) y3 (y4 + (1 : Int32))) else (if az_in ((864 : Int32) + y4) 1036 = true then if (V 0) ((864 : Int32) + y4).toNatClampNeg = (1 : Int32) then ((FX7_inSnapshot V y4 y3).bind (fun o47 => if o47 = x1 then (FX7_snapshotsOf_L12 n V x1 (y2 ||| ((1 : Int32) <<< (y4 &&& 31))) y3 (y4 + (1 : Int32))) else (FX7_snapshotsOf_L12 n V x1 (y2 ||| (0 : Int32)) y3 (y4 + (1 : Int32))))) else (FX7_snapshotsOf_L12 n V x1 (y2 ||| (0 : Int32)) y3 (y4 + (1 : Int32))) else none)))) := rfl
def FX7_snapshotsOf (V : az_St) (x1 : Int32) : Option (Int32) := (FX7_ofBlock V x1 (1 : Int32)).bind (fun o5 => FX7_snapshotsOf_L12 az_fuel V x1 (0 : Int32) o5 (0 : Int32))
theorem inX7_snapshotsOf_RX7 : ∀ w ∈ wsX70, w ∈ wsX7_snapshotsOf := az_inr [11, 12, 13, 14, 15] (by decide +kernel)
set_option maxHeartbeats 4000000 in
set_option maxRecDepth 100000 in
theorem kX7_snapshotsOf (l : Launch) (g : az_G) (ad : Nat → Nat) (V : az_St) (x1 : Int32) (o : Int32) (h : FX7_snapshotsOf V x1 = some o) : az_I l yX7_snapshotsOf wsX7_snapshotsOf ({ frames := 1, cells := 0, slots := 0, locals := 22 } : Room) [.ref (ad 0), .int x1] g (az_cM g ad V) o (az_cM g ad V) := by
  refine az_body (cc := cX7_snapshotsOf) (maxL := 5) (ret := (some .int)) (Qc := fun A => az_QI g (az_cM g ad V) o A) (by decide +kernel) rfl (Nat.le_of_ble_eq_true rfl) ?_
  intro p e s m args below meth c A hx hb hr hts hown hml hlocks hA hK hP hD hS ls hl
  have hl : lv_has ls 5 [(0, .ref (ad 0)), (1, .int x1)] := hl
  unfold FX7_snapshotsOf at h
  have hL12 : ∀ (n : Nat) (y2 : Int32) (y3 : Int32) (y4 : Int32) (H : Heap) (locs : List Loc) (ls : Array Slot), FX7_snapshotsOf_L12 n V x1 y2 y3 y4 = some o → va_P g.1 az_cl (az_cM g ad V) H → va_D A (az_cM g ad V) → va_S A s.heap H locs → lv_has ls 5 [(0, .ref (ad 0)), (1, .int x1), (2, .int y2), (3, .int y3), (4, .int y4)] → W p l e ({ frames := 1, cells := 0, slots := 0, locals := 22 } : Room) s m args below meth c H locs 0 0 (MQ below (az_QI g (az_cM g ad V) o A) args s 0 0 A) (F0 m 12 ls []) := by
    intro n
    induction n with
    | zero => intro y2 y3 y4 H locs ls h; exact az_non h
    | succ n ih =>
      intro y2 y3 y4 H locs ls h hP hD hS hl
      rw [FX7_snapshotsOf_L12_s] at h
      refine lv_iload hx hb dX7_snapshotsOf_12 (lv_at hl 4 rfl) ?_
      refine lv_iconst (v := (4 : Int32)) hx hb dX7_snapshotsOf_14 (by decide) ?_
      refine lv_icmp_ge (tgt := 70) hx hb dX7_snapshotsOf_15 (by decide) (fun c15 => ?_) (fun c15 => ?_)
      · replace h := az_pos c15 h
        refine lv_iload_n hx hb dX7_snapshotsOf_70 rfl (lv_at hl 2 rfl) ?_
        have hP : va_P g.1 az_cl (az_cM g ad V) _ := hP
        have hD : va_D A (az_cM g ad V) := hD
        rw [← Option.some.inj h]
        exact az_iret hx hb hr hlocks hK hP hD hS dX7_snapshotsOf_71
      · replace h := az_neg c15 h
        refine lv_iload_n hx hb dX7_snapshotsOf_18 rfl (lv_at hl 2 rfl) ?_
        refine lv_aload_n hx hb dX7_snapshotsOf_19 rfl (lv_at hl 0 rfl) ?_
        refine lv_iload_n hx hb dX7_snapshotsOf_20 rfl (lv_at hl 1 rfl) ?_
        refine lv_iconst (v := (0 : Int32)) hx hb dX7_snapshotsOf_21 (by decide) ?_
        obtain ⟨o22, hc22, h⟩ := az_bnd h
        refine az_callVi (w2 := az_cM g ad V) (As := [.int x1, .int (0 : Int32)]) (rest := [.int y2]) ⟨hx, hb, hml, hown, hts⟩ hl.1 (kX7_ofBlock l g ad V x1 (0 : Int32) o22 hc22) (cwV 2 hts gX7_snapshotsOf_X7_ofBlock rfl rfl rfl (by decide +kernel) ⟨Nat.le_of_ble_eq_true rfl, Nat.le_of_ble_eq_true rfl⟩) rfl hK hP hD hS hA [0, 1, 2, 3] [] [0, 1, 2, 3] rfl rfl rfl rfl rfl (by decide) rfl rfl rfl 0 rfl rfl rfl (Nat.le_of_ble_eq_true rfl) dX7_snapshotsOf_22 ⟨Nat.zero_le _, Nat.zero_le _⟩ rfl (fun H locs hP hD hS => ?_)
        refine lv_if_eq (tgt := 61) hx hb dX7_snapshotsOf_25 (by decide) (fun c25 => ?_) (fun c25 => ?_)
        · replace h := az_pos c25 h
          refine lv_iconst (v := (0 : Int32)) hx hb dX7_snapshotsOf_61 (by decide) ?_
          refine lv_ior hx hb dX7_snapshotsOf_62 ?_
          refine lv_istore_n (lv' := [(2, .int (y2 ||| (0 : Int32))), (0, .ref (ad 0)), (1, .int x1), (3, .int y3), (4, .int y4)]) hx hb dX7_snapshotsOf_63 rfl hl (by decide) rfl (fun ls hl => ?_)
          refine lv_iinc (v := y4 + (1 : Int32)) (lv' := [(4, .int (y4 + (1 : Int32))), (2, .int (y2 ||| (0 : Int32))), (0, .ref (ad 0)), (1, .int x1), (3, .int y3)]) hx hb dX7_snapshotsOf_64 hl (k := 4) rfl (rfl) (by decide) rfl (fun ls hl => ?_)
          refine lv_goto (tgt := 12) hx hb dX7_snapshotsOf_67 (by decide) ?_
          have hP : va_P g.1 az_cl (az_cM g ad V) _ := hP
          have hD : va_D A (az_cM g ad V) := hD
          exact ih (y2 ||| (0 : Int32)) y3 (y4 + (1 : Int32)) _ _ ls h hP hD hS (lv_sub hl [2, 3, 1, 4, 0] rfl)
        · replace h := az_neg c25 h
          refine lv_aload_n hx hb dX7_snapshotsOf_28 rfl (lv_at hl 0 rfl) ?_
          refine va_get (D := g.1) (ci := 7) (v := .ref (ad 1)) (C := RX7) (T := TX7) (N := 5) hx hb hts inX7_snapshotsOf_RX7 hown hK hP 0 rfl rfl 0 (Nat.le_of_ble_eq_true rfl) (hts _ (List.mem_of_getElem? (i := 1) rfl)) (fun _ h9 => h9) rfl dX7_snapshotsOf_29 ?_
          refine lv_sipush (v := (864 : Int32)) hx hb dX7_snapshotsOf_32 (by decide) ?_
          refine lv_iload hx hb dX7_snapshotsOf_35 (lv_at hl 4 rfl) ?_
          refine lv_iadd hx hb dX7_snapshotsOf_37 ?_
          obtain ⟨i38, h⟩ := az_ite h
          refine va_iald (D := g.1) (f := (V 0)) hx hb hK hP 1 0 rfl rfl (az_vin i38) dX7_snapshotsOf_38 ?_
          refine lv_iconst (v := (1 : Int32)) hx hb dX7_snapshotsOf_39 (by decide) ?_
          refine lv_icmp_ne (tgt := 61) hx hb dX7_snapshotsOf_40 (by decide) (fun c40 => ?_) (fun c40 => ?_)
          · replace h := az_neg c40 h
            refine lv_iconst (v := (0 : Int32)) hx hb dX7_snapshotsOf_61 (by decide) ?_
            refine lv_ior hx hb dX7_snapshotsOf_62 ?_
            refine lv_istore_n (lv' := [(2, .int (y2 ||| (0 : Int32))), (0, .ref (ad 0)), (1, .int x1), (3, .int y3), (4, .int y4)]) hx hb dX7_snapshotsOf_63 rfl hl (by decide) rfl (fun ls hl => ?_)
            refine lv_iinc (v := y4 + (1 : Int32)) (lv' := [(4, .int (y4 + (1 : Int32))), (2, .int (y2 ||| (0 : Int32))), (0, .ref (ad 0)), (1, .int x1), (3, .int y3)]) hx hb dX7_snapshotsOf_64 hl (k := 4) rfl (rfl) (by decide) rfl (fun ls hl => ?_)
            refine lv_goto (tgt := 12) hx hb dX7_snapshotsOf_67 (by decide) ?_
            have hP : va_P g.1 az_cl (az_cM g ad V) _ := hP
            have hD : va_D A (az_cM g ad V) := hD
            exact ih (y2 ||| (0 : Int32)) y3 (y4 + (1 : Int32)) _ _ ls h hP hD hS (lv_sub hl [2, 3, 1, 4, 0] rfl)
          · replace h := az_pos c40 h
            refine lv_aload_n hx hb dX7_snapshotsOf_43 rfl (lv_at hl 0 rfl) ?_
            refine lv_iload hx hb dX7_snapshotsOf_44 (lv_at hl 4 rfl) ?_
            refine lv_iload_n hx hb dX7_snapshotsOf_46 rfl (lv_at hl 3 rfl) ?_
            obtain ⟨o47, hc47, h⟩ := az_bnd h
            refine az_callVi (w2 := az_cM g ad V) (As := [.int y4, .int y3]) (rest := [.int y2]) ⟨hx, hb, hml, hown, hts⟩ hl.1 (kX7_inSnapshot l g ad V y4 y3 o47 hc47) (cwV 2 hts gX7_snapshotsOf_X7_inSnapshot rfl rfl rfl (by decide +kernel) ⟨Nat.le_of_ble_eq_true rfl, Nat.le_of_ble_eq_true rfl⟩) rfl hK hP hD hS hA [0, 1, 2, 3] [] [0, 1, 2, 3] rfl rfl rfl rfl rfl (by decide) rfl rfl rfl 0 rfl rfl rfl (Nat.le_of_ble_eq_true rfl) dX7_snapshotsOf_47 ⟨Nat.zero_le _, Nat.zero_le _⟩ rfl (fun H locs hP hD hS => ?_)
            refine lv_iload_n hx hb dX7_snapshotsOf_50 rfl (lv_at hl 1 rfl) ?_
            refine lv_icmp_ne (tgt := 61) hx hb dX7_snapshotsOf_51 (by decide) (fun c51 => ?_) (fun c51 => ?_)
            · replace h := az_neg c51 h
              refine lv_iconst (v := (0 : Int32)) hx hb dX7_snapshotsOf_61 (by decide) ?_
              refine lv_ior hx hb dX7_snapshotsOf_62 ?_
              refine lv_istore_n (lv' := [(2, .int (y2 ||| (0 : Int32))), (0, .ref (ad 0)), (1, .int x1), (3, .int y3), (4, .int y4)]) hx hb dX7_snapshotsOf_63 rfl hl (by decide) rfl (fun ls hl => ?_)
              refine lv_iinc (v := y4 + (1 : Int32)) (lv' := [(4, .int (y4 + (1 : Int32))), (2, .int (y2 ||| (0 : Int32))), (0, .ref (ad 0)), (1, .int x1), (3, .int y3)]) hx hb dX7_snapshotsOf_64 hl (k := 4) rfl (rfl) (by decide) rfl (fun ls hl => ?_)
              refine lv_goto (tgt := 12) hx hb dX7_snapshotsOf_67 (by decide) ?_
              have hP : va_P g.1 az_cl (az_cM g ad V) _ := hP
              have hD : va_D A (az_cM g ad V) := hD
              exact ih (y2 ||| (0 : Int32)) y3 (y4 + (1 : Int32)) _ _ ls h hP hD hS (lv_sub hl [2, 3, 1, 4, 0] rfl)
            · replace h := az_pos c51 h
              refine lv_iconst (v := (1 : Int32)) hx hb dX7_snapshotsOf_54 (by decide) ?_
              refine lv_iload hx hb dX7_snapshotsOf_55 (lv_at hl 4 rfl) ?_
              refine lv_ishl hx hb dX7_snapshotsOf_57 ?_
              refine lv_goto (tgt := 62) hx hb dX7_snapshotsOf_58 (by decide) ?_
              refine lv_ior hx hb dX7_snapshotsOf_62 ?_
              refine lv_istore_n (lv' := [(2, .int (y2 ||| ((1 : Int32) <<< (y4 &&& 31)))), (0, .ref (ad 0)), (1, .int x1), (3, .int y3), (4, .int y4)]) hx hb dX7_snapshotsOf_63 rfl hl (by decide) rfl (fun ls hl => ?_)
              refine lv_iinc (v := y4 + (1 : Int32)) (lv' := [(4, .int (y4 + (1 : Int32))), (2, .int (y2 ||| ((1 : Int32) <<< (y4 &&& 31)))), (0, .ref (ad 0)), (1, .int x1), (3, .int y3)]) hx hb dX7_snapshotsOf_64 hl (k := 4) rfl (rfl) (by decide) rfl (fun ls hl => ?_)
              refine lv_goto (tgt := 12) hx hb dX7_snapshotsOf_67 (by decide) ?_
              have hP : va_P g.1 az_cl (az_cM g ad V) _ := hP
              have hD : va_D A (az_cM g ad V) := hD
              exact ih (y2 ||| ((1 : Int32) <<< (y4 &&& 31))) y3 (y4 + (1 : Int32)) _ _ ls h hP hD hS (lv_sub hl [2, 3, 1, 4, 0] rfl)
  refine lv_iconst (v := (0 : Int32)) hx hb dX7_snapshotsOf_0 (by decide) ?_
  refine lv_istore_n (lv' := [(2, .int (0 : Int32)), (0, .ref (ad 0)), (1, .int x1)]) hx hb dX7_snapshotsOf_1 rfl hl (by decide) rfl (fun ls hl => ?_)
  refine lv_aload_n hx hb dX7_snapshotsOf_2 rfl (lv_at hl 1 rfl) ?_
  refine lv_iload_n hx hb dX7_snapshotsOf_3 rfl (lv_at hl 2 rfl) ?_
  refine lv_iconst (v := (1 : Int32)) hx hb dX7_snapshotsOf_4 (by decide) ?_
  obtain ⟨o5, hc5, h⟩ := az_bnd h
  refine az_callVi (w2 := az_cM g ad V) (As := [.int x1, .int (1 : Int32)]) (rest := []) ⟨hx, hb, hml, hown, hts⟩ hl.1 (kX7_ofBlock l g ad V x1 (1 : Int32) o5 hc5) (cwV 2 hts gX7_snapshotsOf_X7_ofBlock rfl rfl rfl (by decide +kernel) ⟨Nat.le_of_ble_eq_true rfl, Nat.le_of_ble_eq_true rfl⟩) rfl hK hP hD hS hA [0, 1, 2, 3] [] [0, 1, 2, 3] rfl rfl rfl rfl rfl (by decide) rfl rfl rfl 0 rfl rfl rfl (Nat.le_of_ble_eq_true rfl) dX7_snapshotsOf_5 ⟨Nat.zero_le _, Nat.zero_le _⟩ rfl (fun H locs hP hD hS => ?_)
  refine lv_istore_n (lv' := [(3, .int o5), (2, .int (0 : Int32)), (0, .ref (ad 0)), (1, .int x1)]) hx hb dX7_snapshotsOf_8 rfl hl (by decide) rfl (fun ls hl => ?_)
  refine lv_iconst (v := (0 : Int32)) hx hb dX7_snapshotsOf_9 (by decide) ?_
  refine lv_istore (lv' := [(4, .int (0 : Int32)), (3, .int o5), (2, .int (0 : Int32)), (0, .ref (ad 0)), (1, .int x1)]) hx hb dX7_snapshotsOf_10 hl (by decide) rfl (fun ls hl => ?_)
  have hP : va_P g.1 az_cl (az_cM g ad V) _ := hP
  have hD : va_D A (az_cM g ad V) := hD
  exact hL12 az_fuel (0 : Int32) o5 (0 : Int32) _ _ ls h hP hD hS (lv_sub hl [3, 4, 2, 1, 0] rfl)

def FX7_ends (V : az_St) (x1 : Int32) : Option ((Nat → Int32)) := if az_in ((840 : Int32) + x1) 1036 = true then az_lt (upd (V 0) ((840 : Int32) + x1).toNatClampNeg (-1 : Int32)) (fun u21 => if (V 0) ((840 : Int32) + x1).toNatClampNeg = (-1 : Int32) then (some (u21)) else ((FX7_snapshotsOf (va_up V 0 u21) ((V 0) ((840 : Int32) + x1).toNatClampNeg)).bind (fun o30 => if o30 = (0 : Int32) then ((FX7_waits (va_up V 0 u21) ((V 0) ((840 : Int32) + x1).toNatClampNeg)).bind (fun o48 => some (o48))) else ((FX7_setBlock (va_up V 0 u21) ((V 0) ((840 : Int32) + x1).toNatClampNeg) (0 : Int32) (2 : Int32)).bind (fun o40 => some (o40)))))) else none
theorem inX7_ends_RX7 : ∀ w ∈ wsX70, w ∈ wsX7_ends := az_inr [23, 24, 25, 26, 27] (by decide +kernel)
set_option maxHeartbeats 4000000 in
set_option maxRecDepth 100000 in
theorem kX7_ends (l : Launch) (g : az_G) (ad : Nat → Nat) (V : az_St) (x1 : Int32) (o : (Nat → Int32)) (h : FX7_ends V x1 = some o) : az_V l yX7_ends wsX7_ends ({ frames := 2, cells := 0, slots := 0, locals := 46 } : Room) [.ref (ad 0), .int x1] g (az_cM g ad V) (az_cM g ad (va_up V 0 o)) := by
  refine az_body (cc := cX7_ends) (maxL := 3) (ret := none) (Qc := fun A => az_QV g (az_cM g ad (va_up V 0 o)) A) (by decide +kernel) rfl (Nat.le_of_ble_eq_true rfl) ?_
  intro p e s m args below meth c A hx hb hr hts hown hml hlocks hA hK hP hD hS ls hl
  have hl : lv_has ls 3 [(0, .ref (ad 0)), (1, .int x1)] := hl
  unfold FX7_ends at h
  refine lv_aload_n hx hb dX7_ends_0 rfl (lv_at hl 0 rfl) ?_
  refine va_get (D := g.1) (ci := 7) (v := .ref (ad 1)) (C := RX7) (T := TX7) (N := 5) hx hb hts inX7_ends_RX7 hown hK hP 0 rfl rfl 0 (Nat.le_of_ble_eq_true rfl) (hts _ (List.mem_of_getElem? (i := 1) rfl)) (fun _ h9 => h9) rfl dX7_ends_1 ?_
  refine lv_sipush (v := (840 : Int32)) hx hb dX7_ends_4 (by decide) ?_
  refine lv_iload_n hx hb dX7_ends_7 rfl (lv_at hl 1 rfl) ?_
  refine lv_iadd hx hb dX7_ends_8 ?_
  obtain ⟨i9, h⟩ := az_ite h
  refine va_iald (D := g.1) (f := (V 0)) hx hb hK hP 1 0 rfl rfl (az_vin i9) dX7_ends_9 ?_
  refine lv_istore_n (lv' := [(2, .int ((V 0) ((840 : Int32) + x1).toNatClampNeg)), (0, .ref (ad 0)), (1, .int x1)]) hx hb dX7_ends_10 rfl hl (by decide) rfl (fun ls hl => ?_)
  refine lv_aload_n hx hb dX7_ends_11 rfl (lv_at hl 1 rfl) ?_
  refine va_get (D := g.1) (ci := 7) (v := .ref (ad 1)) (C := RX7) (T := TX7) (N := 5) hx hb hts inX7_ends_RX7 hown hK hP 0 rfl rfl 0 (Nat.le_of_ble_eq_true rfl) (hts _ (List.mem_of_getElem? (i := 1) rfl)) (fun _ h9 => h9) rfl dX7_ends_12 ?_
  refine lv_sipush (v := (840 : Int32)) hx hb dX7_ends_15 (by decide) ?_
  refine lv_iload_n hx hb dX7_ends_18 rfl (lv_at hl 2 rfl) ?_
  refine lv_iadd hx hb dX7_ends_19 ?_
  refine lv_iconst (v := (-1 : Int32)) hx hb dX7_ends_20 (by decide) ?_
  refine va_iast (D := g.1) (f := (V 0)) hx hb hK hP hD hS 1 0 rfl rfl (az_vin i9) dX7_ends_21 (fun H locs hP hD hS => ?_)
  obtain ⟨u21, e21⟩ : ∃ w : Nat → Int32, w = upd (V 0) ((840 : Int32) + x1).toNatClampNeg (-1 : Int32) := ⟨_, rfl⟩
  have hP : va_P g.1 az_cl (az_cM g ad (va_up V 0 u21)) H := by rw [e21]; exact hP
  have hD : va_D A (az_cM g ad (va_up V 0 u21)) := by rw [e21]; exact hD
  replace h := az_let e21 h
  refine lv_iload_n hx hb dX7_ends_22 rfl (lv_at hl 0 rfl) ?_
  refine lv_iconst (v := (-1 : Int32)) hx hb dX7_ends_23 (by decide) ?_
  refine lv_icmp_ne (tgt := 28) hx hb dX7_ends_24 (by decide) (fun c24 => ?_) (fun c24 => ?_)
  · replace h := az_neg c24 h
    refine lv_aload_n hx hb dX7_ends_28 rfl (lv_at hl 1 rfl) ?_
    refine lv_iload_n hx hb dX7_ends_29 rfl (lv_at hl 0 rfl) ?_
    obtain ⟨o30, hc30, h⟩ := az_bnd h
    refine az_callVi (w2 := az_cM g ad (va_up V 0 u21)) (As := [.int ((V 0) ((840 : Int32) + x1).toNatClampNeg)]) (rest := []) ⟨hx, hb, hml, hown, hts⟩ hl.1 (kX7_snapshotsOf l g ad (va_up V 0 u21) ((V 0) ((840 : Int32) + x1).toNatClampNeg) o30 hc30) (cwV 1 hts gX7_ends_X7_snapshotsOf rfl rfl rfl (by decide +kernel) ⟨Nat.le_of_ble_eq_true rfl, Nat.le_of_ble_eq_true rfl⟩) rfl hK hP hD hS hA [0, 1, 2, 3] [] [0, 1, 2, 3] rfl rfl rfl rfl rfl (by decide) rfl rfl rfl 0 rfl rfl rfl (Nat.le_of_ble_eq_true rfl) dX7_ends_30 ⟨Nat.zero_le _, Nat.zero_le _⟩ rfl (fun H locs hP hD hS => ?_)
    refine lv_if_eq (tgt := 46) hx hb dX7_ends_33 (by decide) (fun c33 => ?_) (fun c33 => ?_)
    · replace h := az_pos c33 h
      refine lv_aload_n hx hb dX7_ends_46 rfl (lv_at hl 1 rfl) ?_
      refine lv_iload_n hx hb dX7_ends_47 rfl (lv_at hl 0 rfl) ?_
      obtain ⟨o48, hc48, h⟩ := az_bnd h
      refine az_callVv (w2 := az_cM g ad (va_up V 0 o48)) (As := [.int ((V 0) ((840 : Int32) + x1).toNatClampNeg)]) (rest := []) ⟨hx, hb, hml, hown, hts⟩ hl.1 (kX7_waits l g ad (va_up V 0 u21) ((V 0) ((840 : Int32) + x1).toNatClampNeg) o48 hc48) (cwV 1 hts gX7_ends_X7_waits rfl rfl rfl (by decide +kernel) ⟨Nat.le_of_ble_eq_true rfl, Nat.le_of_ble_eq_true rfl⟩) rfl hK hP hD hS hA [0, 1, 2, 3] [] [0, 1, 2, 3] rfl rfl rfl rfl rfl (by decide) rfl rfl rfl 0 rfl rfl rfl (Nat.le_of_ble_eq_true rfl) dX7_ends_48 ⟨Nat.zero_le _, Nat.zero_le _⟩ rfl (fun H locs hP hD hS => ?_)
      have hP : va_P g.1 az_cl (az_cM g ad (va_up V 0 o48)) _ := hP
      have hD : va_D A (az_cM g ad (va_up V 0 o48)) := hD
      rw [← Option.some.inj h]
      exact az_vret hx hb hr hlocks hK hP hD hS dX7_ends_51
    · replace h := az_neg c33 h
      refine lv_aload_n hx hb dX7_ends_36 rfl (lv_at hl 1 rfl) ?_
      refine lv_iload_n hx hb dX7_ends_37 rfl (lv_at hl 0 rfl) ?_
      refine lv_iconst (v := (0 : Int32)) hx hb dX7_ends_38 (by decide) ?_
      refine lv_iconst (v := (2 : Int32)) hx hb dX7_ends_39 (by decide) ?_
      obtain ⟨o40, hc40, h⟩ := az_bnd h
      refine az_callVv (w2 := az_cM g ad (va_up V 0 o40)) (As := [.int ((V 0) ((840 : Int32) + x1).toNatClampNeg), .int (0 : Int32), .int (2 : Int32)]) (rest := []) ⟨hx, hb, hml, hown, hts⟩ hl.1 (kX7_setBlock l g ad (va_up V 0 u21) ((V 0) ((840 : Int32) + x1).toNatClampNeg) (0 : Int32) (2 : Int32) o40 hc40) (cwV 3 hts gX7_ends_X7_setBlock rfl rfl rfl (by decide +kernel) ⟨Nat.le_of_ble_eq_true rfl, Nat.le_of_ble_eq_true rfl⟩) rfl hK hP hD hS hA [0, 1, 2, 3] [] [0, 1, 2, 3] rfl rfl rfl rfl rfl (by decide) rfl rfl rfl 0 rfl rfl rfl (Nat.le_of_ble_eq_true rfl) dX7_ends_40 ⟨Nat.zero_le _, Nat.zero_le _⟩ rfl (fun H locs hP hD hS => ?_)
      refine lv_goto (tgt := 51) hx hb dX7_ends_43 (by decide) ?_
      have hP : va_P g.1 az_cl (az_cM g ad (va_up V 0 o40)) _ := hP
      have hD : va_D A (az_cM g ad (va_up V 0 o40)) := hD
      rw [← Option.some.inj h]
      exact az_vret hx hb hr hlocks hK hP hD hS dX7_ends_51
  · replace h := az_pos c24 h
    have hP : va_P g.1 az_cl (az_cM g ad (va_up V 0 u21)) _ := hP
    have hD : va_D A (az_cM g ad (va_up V 0 u21)) := hD
    rw [← Option.some.inj h]
    exact az_vret hx hb hr hlocks hK hP hD hS dX7_ends_27

def FX7_write (V : az_St) (x1 : Int32) (x2 : Int32) : Option (Int32 × (Nat → Int32) × (Nat → Int32) × (Nat → Int32)) := (FX7_isKey x1).bind (fun o2 => if o2 = (0 : Int32) then (az_lt (upd (V 2) 1 (1 : Int32)) (fun u36 => if u36 1 ≤ (0 : Int32) then ((FX7_keeps (va_up V 2 u36)).bind (fun o49 => (FX7_appends (va_up (va_up V 1 o49.1) 2 o49.2) (0 : Int32) x1 x2 ((V 0) (4 : Int32).toNatClampNeg) (1 : Int32)).bind (fun o63 => (FX7_ends (va_up (va_up (va_up V 0 o63.2) 1 o49.1) 2 o49.2) x1).bind (fun o69 => if az_in ((840 : Int32) + x1) 1036 = true then az_lt (upd o69 ((840 : Int32) + x1).toNatClampNeg o63.1) (fun u82 => az_lt (upd u82 (6 : Int32).toNatClampNeg ((u82 (6 : Int32).toNatClampNeg) + (1 : Int32))) (fun u93 => some (o63.1, u93, o49.1, o49.2))) else none)))) else (some ((0 : Int32), (V 0), (V 1), u36)))) else (if (V 0) (8 : Int32).toNatClampNeg = (-1 : Int32) then ((FX7_frees V).bind (fun o24 => if (2 : Int32) ≤ o24 then (az_lt (upd (V 2) 1 (0 : Int32)) (fun u36 => if u36 1 ≤ (0 : Int32) then ((FX7_keeps (va_up V 2 u36)).bind (fun o49 => (FX7_appends (va_up (va_up V 1 o49.1) 2 o49.2) (0 : Int32) x1 x2 ((V 0) (4 : Int32).toNatClampNeg) (1 : Int32)).bind (fun o63 => (FX7_ends (va_up (va_up (va_up V 0 o63.2) 1 o49.1) 2 o49.2) x1).bind (fun o69 => if az_in ((840 : Int32) + x1) 1036 = true then az_lt (upd o69 ((840 : Int32) + x1).toNatClampNeg o63.1) (fun u82 => az_lt (upd u82 (6 : Int32).toNatClampNeg ((u82 (6 : Int32).toNatClampNeg) + (1 : Int32))) (fun u93 => some (o63.1, u93, o49.1, o49.2))) else none)))) else (some ((0 : Int32), (V 0), (V 1), u36)))) else (az_lt (upd (V 2) 1 (2 : Int32)) (fun u36 => if u36 1 ≤ (0 : Int32) then ((FX7_keeps (va_up V 2 u36)).bind (fun o49 => (FX7_appends (va_up (va_up V 1 o49.1) 2 o49.2) (0 : Int32) x1 x2 ((V 0) (4 : Int32).toNatClampNeg) (1 : Int32)).bind (fun o63 => (FX7_ends (va_up (va_up (va_up V 0 o63.2) 1 o49.1) 2 o49.2) x1).bind (fun o69 => if az_in ((840 : Int32) + x1) 1036 = true then az_lt (upd o69 ((840 : Int32) + x1).toNatClampNeg o63.1) (fun u82 => az_lt (upd u82 (6 : Int32).toNatClampNeg ((u82 (6 : Int32).toNatClampNeg) + (1 : Int32))) (fun u93 => some (o63.1, u93, o49.1, o49.2))) else none)))) else (some ((0 : Int32), (V 0), (V 1), u36)))))) else (az_lt (upd (V 2) 1 (0 : Int32)) (fun u36 => if u36 1 ≤ (0 : Int32) then ((FX7_keeps (va_up V 2 u36)).bind (fun o49 => (FX7_appends (va_up (va_up V 1 o49.1) 2 o49.2) (0 : Int32) x1 x2 ((V 0) (4 : Int32).toNatClampNeg) (1 : Int32)).bind (fun o63 => (FX7_ends (va_up (va_up (va_up V 0 o63.2) 1 o49.1) 2 o49.2) x1).bind (fun o69 => if az_in ((840 : Int32) + x1) 1036 = true then az_lt (upd o69 ((840 : Int32) + x1).toNatClampNeg o63.1) (fun u82 => az_lt (upd u82 (6 : Int32).toNatClampNeg ((u82 (6 : Int32).toNatClampNeg) + (1 : Int32))) (fun u93 => some (o63.1, u93, o49.1, o49.2))) else none)))) else (some ((0 : Int32), (V 0), (V 1), u36))))))
theorem inX7_write_RX7 : ∀ w ∈ wsX70, w ∈ wsX7_write := az_inr [61, 62, 63, 64, 65] (by decide +kernel)
set_option maxHeartbeats 4000000 in
set_option maxRecDepth 100000 in
theorem kX7_write (l : Launch) (g : az_G) (ad : Nat → Nat) (V : az_St) (x1 : Int32) (x2 : Int32) (o : Int32 × (Nat → Int32) × (Nat → Int32) × (Nat → Int32)) (h : FX7_write V x1 x2 = some o) : az_I l yX7_write wsX7_write ({ frames := 3, cells := 0, slots := 0, locals := 71 } : Room) [.ref (ad 0), .int x1, .int x2] g (az_cM g ad V) o.1 (az_cM g ad (va_up (va_up (va_up V 0 o.2.1) 1 o.2.2.1) 2 o.2.2.2)) := by
  refine az_body (cc := cX7_write) (maxL := 4) (ret := (some .int)) (Qc := fun A => az_QI g (az_cM g ad (va_up (va_up (va_up V 0 o.2.1) 1 o.2.2.1) 2 o.2.2.2)) o.1 A) (by decide +kernel) rfl (Nat.le_of_ble_eq_true rfl) ?_
  intro p e s m args below meth c A hx hb hr hts hown hml hlocks hA hK hP hD hS ls hl
  have hl : lv_has ls 4 [(0, .ref (ad 0)), (1, .int x1), (2, .int x2)] := hl
  unfold FX7_write at h
  refine lv_aload_n hx hb dX7_write_0 rfl (lv_at hl 0 rfl) ?_
  refine lv_iload_n hx hb dX7_write_1 rfl (lv_at hl 1 rfl) ?_
  obtain ⟨o2, hc2, h⟩ := az_bnd h
  refine az_callS0 (As := [.int x1]) (rest := [.ref (ad 0)]) ⟨hx, hb, hml, hown, hts⟩ hl.1 (kX7_isKey l g x1 o2 hc2) (va_cwS 1 hts gX7_write_X7_isKey rfl rfl rfl (by decide +kernel) ⟨Nat.le_of_ble_eq_true rfl, Nat.le_of_ble_eq_true rfl⟩) rfl hK hP hS hA (Nat.le_of_ble_eq_true rfl) dX7_write_2 ⟨Nat.zero_le _, Nat.zero_le _⟩ rfl (fun H locs hP hS => ?_)
  refine lv_if_ne (tgt := 12) hx hb dX7_write_5 (by decide) (fun c5 => ?_) (fun c5 => ?_)
  · replace h := az_neg c5 h
    refine lv_aload_n hx hb dX7_write_12 rfl (lv_at hl 0 rfl) ?_
    refine va_get (D := g.1) (ci := 7) (v := .ref (ad 1)) (C := RX7) (T := TX7) (N := 5) hx hb hts inX7_write_RX7 hown hK hP 0 rfl rfl 0 (Nat.le_of_ble_eq_true rfl) (hts _ (List.mem_of_getElem? (i := 1) rfl)) (fun _ h9 => h9) rfl dX7_write_13 ?_
    refine lv_bipush (v := (8 : Int32)) hx hb dX7_write_16 (by decide) ?_
    refine va_iald (D := g.1) (f := (V 0)) hx hb hK hP 1 0 rfl rfl (az_vin (by decide +kernel)) dX7_write_18 ?_
    refine lv_iconst (v := (-1 : Int32)) hx hb dX7_write_19 (by decide) ?_
    refine lv_icmp_ne (tgt := 35) hx hb dX7_write_20 (by decide) (fun c20 => ?_) (fun c20 => ?_)
    · replace h := az_neg c20 h
      refine lv_iconst (v := (0 : Int32)) hx hb dX7_write_35 (by decide) ?_
      refine va_put (D := g.1) (ci := 7) (v := .int (0 : Int32)) (ty := .int) (C := RX7) (T := TX7) (N := 5) hx hb hts inX7_write_RX7 tyX7 tyX7_ok nmX7 hown hK hP hD hS 0 rfl rfl 3 (Nat.le_of_ble_eq_true rfl) (hts _ (List.mem_of_getElem? (i := 2) rfl)) (fun _ h9 => h9) rfl (by decide +kernel) rfl rfl (Nat.le_of_ble_eq_true rfl) dX7_write_36 (fun H locs hP hD hS => ?_)
      obtain ⟨u36, e36⟩ : ∃ w : Nat → Int32, w = upd (V 2) 1 (0 : Int32) := ⟨_, rfl⟩
      have hP : va_P g.1 az_cl (az_cM g ad (va_up V 2 u36)) H := by rw [e36]; exact hP
      have hD : va_D A (az_cM g ad (va_up V 2 u36)) := by rw [e36]; exact hD
      replace h := az_let e36 h
      refine lv_aload_n hx hb dX7_write_39 rfl (lv_at hl 0 rfl) ?_
      refine va_get (D := g.1) (ci := 7) (v := .int (u36 1)) (C := RX7) (T := TX7) (N := 5) hx hb hts inX7_write_RX7 hown hK hP 0 rfl rfl 3 (Nat.le_of_ble_eq_true rfl) (hts _ (List.mem_of_getElem? (i := 2) rfl)) (fun _ h9 => h9) rfl dX7_write_40 ?_
      refine lv_if_le (tgt := 48) hx hb dX7_write_43 (by decide) (fun c43 => ?_) (fun c43 => ?_)
      · replace h := az_pos c43 h
        refine lv_aload_n hx hb dX7_write_48 rfl (lv_at hl 0 rfl) ?_
        obtain ⟨o49, hc49, h⟩ := az_bnd h
        refine az_callVv (w2 := az_cM g ad (va_up (va_up V 1 o49.1) 2 o49.2)) (As := []) (rest := []) ⟨hx, hb, hml, hown, hts⟩ hl.1 (kX7_keeps l g ad (va_up V 2 u36) o49 hc49) (cwV 0 hts gX7_write_X7_keeps rfl rfl rfl (by decide +kernel) ⟨Nat.le_of_ble_eq_true rfl, Nat.le_of_ble_eq_true rfl⟩) rfl hK hP hD hS hA [0, 1, 2, 3] [] [0, 1, 2, 3] rfl rfl rfl rfl rfl (by decide) rfl rfl rfl 0 rfl rfl rfl (Nat.le_of_ble_eq_true rfl) dX7_write_49 ⟨Nat.zero_le _, Nat.zero_le _⟩ rfl (fun H locs hP hD hS => ?_)
        refine lv_aload_n hx hb dX7_write_52 rfl (lv_at hl 0 rfl) ?_
        refine lv_iconst (v := (0 : Int32)) hx hb dX7_write_53 (by decide) ?_
        refine lv_iload_n hx hb dX7_write_54 rfl (lv_at hl 1 rfl) ?_
        refine lv_iload_n hx hb dX7_write_55 rfl (lv_at hl 2 rfl) ?_
        refine lv_aload_n hx hb dX7_write_56 rfl (lv_at hl 0 rfl) ?_
        refine va_get (D := g.1) (ci := 7) (v := .ref (ad 1)) (C := RX7) (T := TX7) (N := 5) hx hb hts inX7_write_RX7 hown hK hP 0 rfl rfl 0 (Nat.le_of_ble_eq_true rfl) (hts _ (List.mem_of_getElem? (i := 1) rfl)) (fun _ h9 => h9) rfl dX7_write_57 ?_
        refine lv_iconst (v := (4 : Int32)) hx hb dX7_write_60 (by decide) ?_
        refine va_iald (D := g.1) (f := (V 0)) hx hb hK hP 1 0 rfl rfl (az_vin (by decide +kernel)) dX7_write_61 ?_
        refine lv_iconst (v := (1 : Int32)) hx hb dX7_write_62 (by decide) ?_
        obtain ⟨o63, hc63, h⟩ := az_bnd h
        refine az_callVi (w2 := az_cM g ad (va_up (va_up (va_up V 0 o63.2) 1 o49.1) 2 o49.2)) (As := [.int (0 : Int32), .int x1, .int x2, .int ((V 0) (4 : Int32).toNatClampNeg), .int (1 : Int32)]) (rest := []) ⟨hx, hb, hml, hown, hts⟩ hl.1 (kX7_appends l g ad (va_up (va_up V 1 o49.1) 2 o49.2) (0 : Int32) x1 x2 ((V 0) (4 : Int32).toNatClampNeg) (1 : Int32) o63 hc63) (cwV 5 hts gX7_write_X7_appends rfl rfl rfl (by decide +kernel) ⟨Nat.le_of_ble_eq_true rfl, Nat.le_of_ble_eq_true rfl⟩) rfl hK hP hD hS hA [0, 1, 2, 3] [] [0, 1, 2, 3] rfl rfl rfl rfl rfl (by decide) rfl rfl rfl 0 rfl rfl rfl (Nat.le_of_ble_eq_true rfl) dX7_write_63 ⟨Nat.zero_le _, Nat.zero_le _⟩ rfl (fun H locs hP hD hS => ?_)
        refine lv_istore_n (lv' := [(3, .int o63.1), (0, .ref (ad 0)), (1, .int x1), (2, .int x2)]) hx hb dX7_write_66 rfl hl (by decide) rfl (fun ls hl => ?_)
        refine lv_aload_n hx hb dX7_write_67 rfl (lv_at hl 1 rfl) ?_
        refine lv_iload_n hx hb dX7_write_68 rfl (lv_at hl 2 rfl) ?_
        obtain ⟨o69, hc69, h⟩ := az_bnd h
        refine az_callVv (w2 := az_cM g ad (va_up (va_up (va_up V 0 o69) 1 o49.1) 2 o49.2)) (As := [.int x1]) (rest := []) ⟨hx, hb, hml, hown, hts⟩ hl.1 (kX7_ends l g ad (va_up (va_up (va_up V 0 o63.2) 1 o49.1) 2 o49.2) x1 o69 hc69) (cwV 1 hts gX7_write_X7_ends rfl rfl rfl (by decide +kernel) ⟨Nat.le_of_ble_eq_true rfl, Nat.le_of_ble_eq_true rfl⟩) rfl hK hP hD hS hA [0, 1, 2, 3] [] [0, 1, 2, 3] rfl rfl rfl rfl rfl (by decide) rfl rfl rfl 0 rfl rfl rfl (Nat.le_of_ble_eq_true rfl) dX7_write_69 ⟨Nat.zero_le _, Nat.zero_le _⟩ rfl (fun H locs hP hD hS => ?_)
        refine lv_aload_n hx hb dX7_write_72 rfl (lv_at hl 1 rfl) ?_
        refine va_get (D := g.1) (ci := 7) (v := .ref (ad 1)) (C := RX7) (T := TX7) (N := 5) hx hb hts inX7_write_RX7 hown hK hP 0 rfl rfl 0 (Nat.le_of_ble_eq_true rfl) (hts _ (List.mem_of_getElem? (i := 1) rfl)) (fun _ h9 => h9) rfl dX7_write_73 ?_
        refine lv_sipush (v := (840 : Int32)) hx hb dX7_write_76 (by decide) ?_
        refine lv_iload_n hx hb dX7_write_79 rfl (lv_at hl 2 rfl) ?_
        refine lv_iadd hx hb dX7_write_80 ?_
        refine lv_iload_n hx hb dX7_write_81 rfl (lv_at hl 0 rfl) ?_
        obtain ⟨i82, h⟩ := az_ite h
        refine va_iast (D := g.1) (f := o69) hx hb hK hP hD hS 1 0 rfl rfl (az_vin i82) dX7_write_82 (fun H locs hP hD hS => ?_)
        obtain ⟨u82, e82⟩ : ∃ w : Nat → Int32, w = upd o69 ((840 : Int32) + x1).toNatClampNeg o63.1 := ⟨_, rfl⟩
        have hP : va_P g.1 az_cl (az_cM g ad (va_up (va_up (va_up V 0 u82) 1 o49.1) 2 o49.2)) H := by rw [e82]; exact hP
        have hD : va_D A (az_cM g ad (va_up (va_up (va_up V 0 u82) 1 o49.1) 2 o49.2)) := by rw [e82]; exact hD
        replace h := az_let e82 h
        refine lv_aload_n hx hb dX7_write_83 rfl (lv_at hl 1 rfl) ?_
        refine va_get (D := g.1) (ci := 7) (v := .ref (ad 1)) (C := RX7) (T := TX7) (N := 5) hx hb hts inX7_write_RX7 hown hK hP 0 rfl rfl 0 (Nat.le_of_ble_eq_true rfl) (hts _ (List.mem_of_getElem? (i := 1) rfl)) (fun _ h9 => h9) rfl dX7_write_84 ?_
        refine lv_bipush (v := (6 : Int32)) hx hb dX7_write_87 (by decide) ?_
        refine lv_dup2_11 hx hb dX7_write_89 rfl rfl ?_
        refine va_iald (D := g.1) (f := u82) hx hb hK hP 1 0 rfl rfl (az_vin (by decide +kernel)) dX7_write_90 ?_
        refine lv_iconst (v := (1 : Int32)) hx hb dX7_write_91 (by decide) ?_
        refine lv_iadd hx hb dX7_write_92 ?_
        refine va_iast (D := g.1) (f := u82) hx hb hK hP hD hS 1 0 rfl rfl (az_vin (by decide +kernel)) dX7_write_93 (fun H locs hP hD hS => ?_)
        obtain ⟨u93, e93⟩ : ∃ w : Nat → Int32, w = upd u82 (6 : Int32).toNatClampNeg ((u82 (6 : Int32).toNatClampNeg) + (1 : Int32)) := ⟨_, rfl⟩
        have hP : va_P g.1 az_cl (az_cM g ad (va_up (va_up (va_up V 0 u93) 1 o49.1) 2 o49.2)) H := by rw [e93]; exact hP
        have hD : va_D A (az_cM g ad (va_up (va_up (va_up V 0 u93) 1 o49.1) 2 o49.2)) := by rw [e93]; exact hD
        replace h := az_let e93 h
        refine lv_iload_n hx hb dX7_write_94 rfl (lv_at hl 0 rfl) ?_
        have hP : va_P g.1 az_cl (az_cM g ad (va_up (va_up (va_up V 0 u93) 1 o49.1) 2 o49.2)) _ := hP
        have hD : va_D A (az_cM g ad (va_up (va_up (va_up V 0 u93) 1 o49.1) 2 o49.2)) := hD
        rw [← Option.some.inj h]
        exact az_iret hx hb hr hlocks hK hP hD hS dX7_write_95
      · replace h := az_neg c43 h
        refine lv_iconst (v := (0 : Int32)) hx hb dX7_write_46 (by decide) ?_
        have hP : va_P g.1 az_cl (az_cM g ad (va_up (va_up (va_up V 0 (V 0)) 1 (V 1)) 2 u36)) _ := hP
        have hD : va_D A (az_cM g ad (va_up (va_up (va_up V 0 (V 0)) 1 (V 1)) 2 u36)) := hD
        rw [← Option.some.inj h]
        exact az_iret hx hb hr hlocks hK hP hD hS dX7_write_47
    · replace h := az_pos c20 h
      refine lv_aload_n hx hb dX7_write_23 rfl (lv_at hl 0 rfl) ?_
      obtain ⟨o24, hc24, h⟩ := az_bnd h
      refine az_callVi (w2 := az_cM g ad V) (As := []) (rest := [.ref (ad 0)]) ⟨hx, hb, hml, hown, hts⟩ hl.1 (kX7_frees l g ad V o24 hc24) (cwV 0 hts gX7_write_X7_frees rfl rfl rfl (by decide +kernel) ⟨Nat.le_of_ble_eq_true rfl, Nat.le_of_ble_eq_true rfl⟩) rfl hK hP hD hS hA [0, 1, 2, 3] [] [0, 1, 2, 3] rfl rfl rfl rfl rfl (by decide) rfl rfl rfl 0 rfl rfl rfl (Nat.le_of_ble_eq_true rfl) dX7_write_24 ⟨Nat.zero_le _, Nat.zero_le _⟩ rfl (fun H locs hP hD hS => ?_)
      refine lv_iconst (v := (2 : Int32)) hx hb dX7_write_27 (by decide) ?_
      refine lv_icmp_ge (tgt := 35) hx hb dX7_write_28 (by decide) (fun c28 => ?_) (fun c28 => ?_)
      · replace h := az_pos c28 h
        refine lv_iconst (v := (0 : Int32)) hx hb dX7_write_35 (by decide) ?_
        refine va_put (D := g.1) (ci := 7) (v := .int (0 : Int32)) (ty := .int) (C := RX7) (T := TX7) (N := 5) hx hb hts inX7_write_RX7 tyX7 tyX7_ok nmX7 hown hK hP hD hS 0 rfl rfl 3 (Nat.le_of_ble_eq_true rfl) (hts _ (List.mem_of_getElem? (i := 2) rfl)) (fun _ h9 => h9) rfl (by decide +kernel) rfl rfl (Nat.le_of_ble_eq_true rfl) dX7_write_36 (fun H locs hP hD hS => ?_)
        obtain ⟨u36, e36⟩ : ∃ w : Nat → Int32, w = upd (V 2) 1 (0 : Int32) := ⟨_, rfl⟩
        have hP : va_P g.1 az_cl (az_cM g ad (va_up V 2 u36)) H := by rw [e36]; exact hP
        have hD : va_D A (az_cM g ad (va_up V 2 u36)) := by rw [e36]; exact hD
        replace h := az_let e36 h
        refine lv_aload_n hx hb dX7_write_39 rfl (lv_at hl 0 rfl) ?_
        refine va_get (D := g.1) (ci := 7) (v := .int (u36 1)) (C := RX7) (T := TX7) (N := 5) hx hb hts inX7_write_RX7 hown hK hP 0 rfl rfl 3 (Nat.le_of_ble_eq_true rfl) (hts _ (List.mem_of_getElem? (i := 2) rfl)) (fun _ h9 => h9) rfl dX7_write_40 ?_
        refine lv_if_le (tgt := 48) hx hb dX7_write_43 (by decide) (fun c43 => ?_) (fun c43 => ?_)
        · replace h := az_pos c43 h
          refine lv_aload_n hx hb dX7_write_48 rfl (lv_at hl 0 rfl) ?_
          obtain ⟨o49, hc49, h⟩ := az_bnd h
          refine az_callVv (w2 := az_cM g ad (va_up (va_up V 1 o49.1) 2 o49.2)) (As := []) (rest := []) ⟨hx, hb, hml, hown, hts⟩ hl.1 (kX7_keeps l g ad (va_up V 2 u36) o49 hc49) (cwV 0 hts gX7_write_X7_keeps rfl rfl rfl (by decide +kernel) ⟨Nat.le_of_ble_eq_true rfl, Nat.le_of_ble_eq_true rfl⟩) rfl hK hP hD hS hA [0, 1, 2, 3] [] [0, 1, 2, 3] rfl rfl rfl rfl rfl (by decide) rfl rfl rfl 0 rfl rfl rfl (Nat.le_of_ble_eq_true rfl) dX7_write_49 ⟨Nat.zero_le _, Nat.zero_le _⟩ rfl (fun H locs hP hD hS => ?_)
          refine lv_aload_n hx hb dX7_write_52 rfl (lv_at hl 0 rfl) ?_
          refine lv_iconst (v := (0 : Int32)) hx hb dX7_write_53 (by decide) ?_
          refine lv_iload_n hx hb dX7_write_54 rfl (lv_at hl 1 rfl) ?_
          refine lv_iload_n hx hb dX7_write_55 rfl (lv_at hl 2 rfl) ?_
          refine lv_aload_n hx hb dX7_write_56 rfl (lv_at hl 0 rfl) ?_
          refine va_get (D := g.1) (ci := 7) (v := .ref (ad 1)) (C := RX7) (T := TX7) (N := 5) hx hb hts inX7_write_RX7 hown hK hP 0 rfl rfl 0 (Nat.le_of_ble_eq_true rfl) (hts _ (List.mem_of_getElem? (i := 1) rfl)) (fun _ h9 => h9) rfl dX7_write_57 ?_
          refine lv_iconst (v := (4 : Int32)) hx hb dX7_write_60 (by decide) ?_
          refine va_iald (D := g.1) (f := (V 0)) hx hb hK hP 1 0 rfl rfl (az_vin (by decide +kernel)) dX7_write_61 ?_
          refine lv_iconst (v := (1 : Int32)) hx hb dX7_write_62 (by decide) ?_
          obtain ⟨o63, hc63, h⟩ := az_bnd h
          refine az_callVi (w2 := az_cM g ad (va_up (va_up (va_up V 0 o63.2) 1 o49.1) 2 o49.2)) (As := [.int (0 : Int32), .int x1, .int x2, .int ((V 0) (4 : Int32).toNatClampNeg), .int (1 : Int32)]) (rest := []) ⟨hx, hb, hml, hown, hts⟩ hl.1 (kX7_appends l g ad (va_up (va_up V 1 o49.1) 2 o49.2) (0 : Int32) x1 x2 ((V 0) (4 : Int32).toNatClampNeg) (1 : Int32) o63 hc63) (cwV 5 hts gX7_write_X7_appends rfl rfl rfl (by decide +kernel) ⟨Nat.le_of_ble_eq_true rfl, Nat.le_of_ble_eq_true rfl⟩) rfl hK hP hD hS hA [0, 1, 2, 3] [] [0, 1, 2, 3] rfl rfl rfl rfl rfl (by decide) rfl rfl rfl 0 rfl rfl rfl (Nat.le_of_ble_eq_true rfl) dX7_write_63 ⟨Nat.zero_le _, Nat.zero_le _⟩ rfl (fun H locs hP hD hS => ?_)
          refine lv_istore_n (lv' := [(3, .int o63.1), (0, .ref (ad 0)), (1, .int x1), (2, .int x2)]) hx hb dX7_write_66 rfl hl (by decide) rfl (fun ls hl => ?_)
          refine lv_aload_n hx hb dX7_write_67 rfl (lv_at hl 1 rfl) ?_
          refine lv_iload_n hx hb dX7_write_68 rfl (lv_at hl 2 rfl) ?_
          obtain ⟨o69, hc69, h⟩ := az_bnd h
          refine az_callVv (w2 := az_cM g ad (va_up (va_up (va_up V 0 o69) 1 o49.1) 2 o49.2)) (As := [.int x1]) (rest := []) ⟨hx, hb, hml, hown, hts⟩ hl.1 (kX7_ends l g ad (va_up (va_up (va_up V 0 o63.2) 1 o49.1) 2 o49.2) x1 o69 hc69) (cwV 1 hts gX7_write_X7_ends rfl rfl rfl (by decide +kernel) ⟨Nat.le_of_ble_eq_true rfl, Nat.le_of_ble_eq_true rfl⟩) rfl hK hP hD hS hA [0, 1, 2, 3] [] [0, 1, 2, 3] rfl rfl rfl rfl rfl (by decide) rfl rfl rfl 0 rfl rfl rfl (Nat.le_of_ble_eq_true rfl) dX7_write_69 ⟨Nat.zero_le _, Nat.zero_le _⟩ rfl (fun H locs hP hD hS => ?_)
          refine lv_aload_n hx hb dX7_write_72 rfl (lv_at hl 1 rfl) ?_
          refine va_get (D := g.1) (ci := 7) (v := .ref (ad 1)) (C := RX7) (T := TX7) (N := 5) hx hb hts inX7_write_RX7 hown hK hP 0 rfl rfl 0 (Nat.le_of_ble_eq_true rfl) (hts _ (List.mem_of_getElem? (i := 1) rfl)) (fun _ h9 => h9) rfl dX7_write_73 ?_
          refine lv_sipush (v := (840 : Int32)) hx hb dX7_write_76 (by decide) ?_
          refine lv_iload_n hx hb dX7_write_79 rfl (lv_at hl 2 rfl) ?_
          refine lv_iadd hx hb dX7_write_80 ?_
          refine lv_iload_n hx hb dX7_write_81 rfl (lv_at hl 0 rfl) ?_
          obtain ⟨i82, h⟩ := az_ite h
          refine va_iast (D := g.1) (f := o69) hx hb hK hP hD hS 1 0 rfl rfl (az_vin i82) dX7_write_82 (fun H locs hP hD hS => ?_)
          obtain ⟨u82, e82⟩ : ∃ w : Nat → Int32, w = upd o69 ((840 : Int32) + x1).toNatClampNeg o63.1 := ⟨_, rfl⟩
          have hP : va_P g.1 az_cl (az_cM g ad (va_up (va_up (va_up V 0 u82) 1 o49.1) 2 o49.2)) H := by rw [e82]; exact hP
          have hD : va_D A (az_cM g ad (va_up (va_up (va_up V 0 u82) 1 o49.1) 2 o49.2)) := by rw [e82]; exact hD
          replace h := az_let e82 h
          refine lv_aload_n hx hb dX7_write_83 rfl (lv_at hl 1 rfl) ?_
          refine va_get (D := g.1) (ci := 7) (v := .ref (ad 1)) (C := RX7) (T := TX7) (N := 5) hx hb hts inX7_write_RX7 hown hK hP 0 rfl rfl 0 (Nat.le_of_ble_eq_true rfl) (hts _ (List.mem_of_getElem? (i := 1) rfl)) (fun _ h9 => h9) rfl dX7_write_84 ?_
          refine lv_bipush (v := (6 : Int32)) hx hb dX7_write_87 (by decide) ?_
          refine lv_dup2_11 hx hb dX7_write_89 rfl rfl ?_
          refine va_iald (D := g.1) (f := u82) hx hb hK hP 1 0 rfl rfl (az_vin (by decide +kernel)) dX7_write_90 ?_
          refine lv_iconst (v := (1 : Int32)) hx hb dX7_write_91 (by decide) ?_
          refine lv_iadd hx hb dX7_write_92 ?_
          refine va_iast (D := g.1) (f := u82) hx hb hK hP hD hS 1 0 rfl rfl (az_vin (by decide +kernel)) dX7_write_93 (fun H locs hP hD hS => ?_)
          obtain ⟨u93, e93⟩ : ∃ w : Nat → Int32, w = upd u82 (6 : Int32).toNatClampNeg ((u82 (6 : Int32).toNatClampNeg) + (1 : Int32)) := ⟨_, rfl⟩
          have hP : va_P g.1 az_cl (az_cM g ad (va_up (va_up (va_up V 0 u93) 1 o49.1) 2 o49.2)) H := by rw [e93]; exact hP
          have hD : va_D A (az_cM g ad (va_up (va_up (va_up V 0 u93) 1 o49.1) 2 o49.2)) := by rw [e93]; exact hD
          replace h := az_let e93 h
          refine lv_iload_n hx hb dX7_write_94 rfl (lv_at hl 0 rfl) ?_
          have hP : va_P g.1 az_cl (az_cM g ad (va_up (va_up (va_up V 0 u93) 1 o49.1) 2 o49.2)) _ := hP
          have hD : va_D A (az_cM g ad (va_up (va_up (va_up V 0 u93) 1 o49.1) 2 o49.2)) := hD
          rw [← Option.some.inj h]
          exact az_iret hx hb hr hlocks hK hP hD hS dX7_write_95
        · replace h := az_neg c43 h
          refine lv_iconst (v := (0 : Int32)) hx hb dX7_write_46 (by decide) ?_
          have hP : va_P g.1 az_cl (az_cM g ad (va_up (va_up (va_up V 0 (V 0)) 1 (V 1)) 2 u36)) _ := hP
          have hD : va_D A (az_cM g ad (va_up (va_up (va_up V 0 (V 0)) 1 (V 1)) 2 u36)) := hD
          rw [← Option.some.inj h]
          exact az_iret hx hb hr hlocks hK hP hD hS dX7_write_47
      · replace h := az_neg c28 h
        refine lv_iconst (v := (2 : Int32)) hx hb dX7_write_31 (by decide) ?_
        refine lv_goto (tgt := 36) hx hb dX7_write_32 (by decide) ?_
        refine va_put (D := g.1) (ci := 7) (v := .int (2 : Int32)) (ty := .int) (C := RX7) (T := TX7) (N := 5) hx hb hts inX7_write_RX7 tyX7 tyX7_ok nmX7 hown hK hP hD hS 0 rfl rfl 3 (Nat.le_of_ble_eq_true rfl) (hts _ (List.mem_of_getElem? (i := 2) rfl)) (fun _ h9 => h9) rfl (by decide +kernel) rfl rfl (Nat.le_of_ble_eq_true rfl) dX7_write_36 (fun H locs hP hD hS => ?_)
        obtain ⟨u36, e36⟩ : ∃ w : Nat → Int32, w = upd (V 2) 1 (2 : Int32) := ⟨_, rfl⟩
        have hP : va_P g.1 az_cl (az_cM g ad (va_up V 2 u36)) H := by rw [e36]; exact hP
        have hD : va_D A (az_cM g ad (va_up V 2 u36)) := by rw [e36]; exact hD
        replace h := az_let e36 h
        refine lv_aload_n hx hb dX7_write_39 rfl (lv_at hl 0 rfl) ?_
        refine va_get (D := g.1) (ci := 7) (v := .int (u36 1)) (C := RX7) (T := TX7) (N := 5) hx hb hts inX7_write_RX7 hown hK hP 0 rfl rfl 3 (Nat.le_of_ble_eq_true rfl) (hts _ (List.mem_of_getElem? (i := 2) rfl)) (fun _ h9 => h9) rfl dX7_write_40 ?_
        refine lv_if_le (tgt := 48) hx hb dX7_write_43 (by decide) (fun c43 => ?_) (fun c43 => ?_)
        · replace h := az_pos c43 h
          refine lv_aload_n hx hb dX7_write_48 rfl (lv_at hl 0 rfl) ?_
          obtain ⟨o49, hc49, h⟩ := az_bnd h
          refine az_callVv (w2 := az_cM g ad (va_up (va_up V 1 o49.1) 2 o49.2)) (As := []) (rest := []) ⟨hx, hb, hml, hown, hts⟩ hl.1 (kX7_keeps l g ad (va_up V 2 u36) o49 hc49) (cwV 0 hts gX7_write_X7_keeps rfl rfl rfl (by decide +kernel) ⟨Nat.le_of_ble_eq_true rfl, Nat.le_of_ble_eq_true rfl⟩) rfl hK hP hD hS hA [0, 1, 2, 3] [] [0, 1, 2, 3] rfl rfl rfl rfl rfl (by decide) rfl rfl rfl 0 rfl rfl rfl (Nat.le_of_ble_eq_true rfl) dX7_write_49 ⟨Nat.zero_le _, Nat.zero_le _⟩ rfl (fun H locs hP hD hS => ?_)
          refine lv_aload_n hx hb dX7_write_52 rfl (lv_at hl 0 rfl) ?_
          refine lv_iconst (v := (0 : Int32)) hx hb dX7_write_53 (by decide) ?_
          refine lv_iload_n hx hb dX7_write_54 rfl (lv_at hl 1 rfl) ?_
          refine lv_iload_n hx hb dX7_write_55 rfl (lv_at hl 2 rfl) ?_
          refine lv_aload_n hx hb dX7_write_56 rfl (lv_at hl 0 rfl) ?_
          refine va_get (D := g.1) (ci := 7) (v := .ref (ad 1)) (C := RX7) (T := TX7) (N := 5) hx hb hts inX7_write_RX7 hown hK hP 0 rfl rfl 0 (Nat.le_of_ble_eq_true rfl) (hts _ (List.mem_of_getElem? (i := 1) rfl)) (fun _ h9 => h9) rfl dX7_write_57 ?_
          refine lv_iconst (v := (4 : Int32)) hx hb dX7_write_60 (by decide) ?_
          refine va_iald (D := g.1) (f := (V 0)) hx hb hK hP 1 0 rfl rfl (az_vin (by decide +kernel)) dX7_write_61 ?_
          refine lv_iconst (v := (1 : Int32)) hx hb dX7_write_62 (by decide) ?_
          obtain ⟨o63, hc63, h⟩ := az_bnd h
          refine az_callVi (w2 := az_cM g ad (va_up (va_up (va_up V 0 o63.2) 1 o49.1) 2 o49.2)) (As := [.int (0 : Int32), .int x1, .int x2, .int ((V 0) (4 : Int32).toNatClampNeg), .int (1 : Int32)]) (rest := []) ⟨hx, hb, hml, hown, hts⟩ hl.1 (kX7_appends l g ad (va_up (va_up V 1 o49.1) 2 o49.2) (0 : Int32) x1 x2 ((V 0) (4 : Int32).toNatClampNeg) (1 : Int32) o63 hc63) (cwV 5 hts gX7_write_X7_appends rfl rfl rfl (by decide +kernel) ⟨Nat.le_of_ble_eq_true rfl, Nat.le_of_ble_eq_true rfl⟩) rfl hK hP hD hS hA [0, 1, 2, 3] [] [0, 1, 2, 3] rfl rfl rfl rfl rfl (by decide) rfl rfl rfl 0 rfl rfl rfl (Nat.le_of_ble_eq_true rfl) dX7_write_63 ⟨Nat.zero_le _, Nat.zero_le _⟩ rfl (fun H locs hP hD hS => ?_)
          refine lv_istore_n (lv' := [(3, .int o63.1), (0, .ref (ad 0)), (1, .int x1), (2, .int x2)]) hx hb dX7_write_66 rfl hl (by decide) rfl (fun ls hl => ?_)
          refine lv_aload_n hx hb dX7_write_67 rfl (lv_at hl 1 rfl) ?_
          refine lv_iload_n hx hb dX7_write_68 rfl (lv_at hl 2 rfl) ?_
          obtain ⟨o69, hc69, h⟩ := az_bnd h
          refine az_callVv (w2 := az_cM g ad (va_up (va_up (va_up V 0 o69) 1 o49.1) 2 o49.2)) (As := [.int x1]) (rest := []) ⟨hx, hb, hml, hown, hts⟩ hl.1 (kX7_ends l g ad (va_up (va_up (va_up V 0 o63.2) 1 o49.1) 2 o49.2) x1 o69 hc69) (cwV 1 hts gX7_write_X7_ends rfl rfl rfl (by decide +kernel) ⟨Nat.le_of_ble_eq_true rfl, Nat.le_of_ble_eq_true rfl⟩) rfl hK hP hD hS hA [0, 1, 2, 3] [] [0, 1, 2, 3] rfl rfl rfl rfl rfl (by decide) rfl rfl rfl 0 rfl rfl rfl (Nat.le_of_ble_eq_true rfl) dX7_write_69 ⟨Nat.zero_le _, Nat.zero_le _⟩ rfl (fun H locs hP hD hS => ?_)
          refine lv_aload_n hx hb dX7_write_72 rfl (lv_at hl 1 rfl) ?_
          refine va_get (D := g.1) (ci := 7) (v := .ref (ad 1)) (C := RX7) (T := TX7) (N := 5) hx hb hts inX7_write_RX7 hown hK hP 0 rfl rfl 0 (Nat.le_of_ble_eq_true rfl) (hts _ (List.mem_of_getElem? (i := 1) rfl)) (fun _ h9 => h9) rfl dX7_write_73 ?_
          refine lv_sipush (v := (840 : Int32)) hx hb dX7_write_76 (by decide) ?_
          refine lv_iload_n hx hb dX7_write_79 rfl (lv_at hl 2 rfl) ?_
          refine lv_iadd hx hb dX7_write_80 ?_
          refine lv_iload_n hx hb dX7_write_81 rfl (lv_at hl 0 rfl) ?_
          obtain ⟨i82, h⟩ := az_ite h
          refine va_iast (D := g.1) (f := o69) hx hb hK hP hD hS 1 0 rfl rfl (az_vin i82) dX7_write_82 (fun H locs hP hD hS => ?_)
          obtain ⟨u82, e82⟩ : ∃ w : Nat → Int32, w = upd o69 ((840 : Int32) + x1).toNatClampNeg o63.1 := ⟨_, rfl⟩
          have hP : va_P g.1 az_cl (az_cM g ad (va_up (va_up (va_up V 0 u82) 1 o49.1) 2 o49.2)) H := by rw [e82]; exact hP
          have hD : va_D A (az_cM g ad (va_up (va_up (va_up V 0 u82) 1 o49.1) 2 o49.2)) := by rw [e82]; exact hD
          replace h := az_let e82 h
          refine lv_aload_n hx hb dX7_write_83 rfl (lv_at hl 1 rfl) ?_
          refine va_get (D := g.1) (ci := 7) (v := .ref (ad 1)) (C := RX7) (T := TX7) (N := 5) hx hb hts inX7_write_RX7 hown hK hP 0 rfl rfl 0 (Nat.le_of_ble_eq_true rfl) (hts _ (List.mem_of_getElem? (i := 1) rfl)) (fun _ h9 => h9) rfl dX7_write_84 ?_
          refine lv_bipush (v := (6 : Int32)) hx hb dX7_write_87 (by decide) ?_
          refine lv_dup2_11 hx hb dX7_write_89 rfl rfl ?_
          refine va_iald (D := g.1) (f := u82) hx hb hK hP 1 0 rfl rfl (az_vin (by decide +kernel)) dX7_write_90 ?_
          refine lv_iconst (v := (1 : Int32)) hx hb dX7_write_91 (by decide) ?_
          refine lv_iadd hx hb dX7_write_92 ?_
          refine va_iast (D := g.1) (f := u82) hx hb hK hP hD hS 1 0 rfl rfl (az_vin (by decide +kernel)) dX7_write_93 (fun H locs hP hD hS => ?_)
          obtain ⟨u93, e93⟩ : ∃ w : Nat → Int32, w = upd u82 (6 : Int32).toNatClampNeg ((u82 (6 : Int32).toNatClampNeg) + (1 : Int32)) := ⟨_, rfl⟩
          have hP : va_P g.1 az_cl (az_cM g ad (va_up (va_up (va_up V 0 u93) 1 o49.1) 2 o49.2)) H := by rw [e93]; exact hP
          have hD : va_D A (az_cM g ad (va_up (va_up (va_up V 0 u93) 1 o49.1) 2 o49.2)) := by rw [e93]; exact hD
          replace h := az_let e93 h
          refine lv_iload_n hx hb dX7_write_94 rfl (lv_at hl 0 rfl) ?_
          have hP : va_P g.1 az_cl (az_cM g ad (va_up (va_up (va_up V 0 u93) 1 o49.1) 2 o49.2)) _ := hP
          have hD : va_D A (az_cM g ad (va_up (va_up (va_up V 0 u93) 1 o49.1) 2 o49.2)) := hD
          rw [← Option.some.inj h]
          exact az_iret hx hb hr hlocks hK hP hD hS dX7_write_95
        · replace h := az_neg c43 h
          refine lv_iconst (v := (0 : Int32)) hx hb dX7_write_46 (by decide) ?_
          have hP : va_P g.1 az_cl (az_cM g ad (va_up (va_up (va_up V 0 (V 0)) 1 (V 1)) 2 u36)) _ := hP
          have hD : va_D A (az_cM g ad (va_up (va_up (va_up V 0 (V 0)) 1 (V 1)) 2 u36)) := hD
          rw [← Option.some.inj h]
          exact az_iret hx hb hr hlocks hK hP hD hS dX7_write_47
  · replace h := az_pos c5 h
    refine lv_iconst (v := (1 : Int32)) hx hb dX7_write_8 (by decide) ?_
    refine lv_goto (tgt := 36) hx hb dX7_write_9 (by decide) ?_
    refine va_put (D := g.1) (ci := 7) (v := .int (1 : Int32)) (ty := .int) (C := RX7) (T := TX7) (N := 5) hx hb hts inX7_write_RX7 tyX7 tyX7_ok nmX7 hown hK hP hD hS 0 rfl rfl 3 (Nat.le_of_ble_eq_true rfl) (hts _ (List.mem_of_getElem? (i := 2) rfl)) (fun _ h9 => h9) rfl (by decide +kernel) rfl rfl (Nat.le_of_ble_eq_true rfl) dX7_write_36 (fun H locs hP hD hS => ?_)
    obtain ⟨u36, e36⟩ : ∃ w : Nat → Int32, w = upd (V 2) 1 (1 : Int32) := ⟨_, rfl⟩
    have hP : va_P g.1 az_cl (az_cM g ad (va_up V 2 u36)) H := by rw [e36]; exact hP
    have hD : va_D A (az_cM g ad (va_up V 2 u36)) := by rw [e36]; exact hD
    replace h := az_let e36 h
    refine lv_aload_n hx hb dX7_write_39 rfl (lv_at hl 0 rfl) ?_
    refine va_get (D := g.1) (ci := 7) (v := .int (u36 1)) (C := RX7) (T := TX7) (N := 5) hx hb hts inX7_write_RX7 hown hK hP 0 rfl rfl 3 (Nat.le_of_ble_eq_true rfl) (hts _ (List.mem_of_getElem? (i := 2) rfl)) (fun _ h9 => h9) rfl dX7_write_40 ?_
    refine lv_if_le (tgt := 48) hx hb dX7_write_43 (by decide) (fun c43 => ?_) (fun c43 => ?_)
    · replace h := az_pos c43 h
      refine lv_aload_n hx hb dX7_write_48 rfl (lv_at hl 0 rfl) ?_
      obtain ⟨o49, hc49, h⟩ := az_bnd h
      refine az_callVv (w2 := az_cM g ad (va_up (va_up V 1 o49.1) 2 o49.2)) (As := []) (rest := []) ⟨hx, hb, hml, hown, hts⟩ hl.1 (kX7_keeps l g ad (va_up V 2 u36) o49 hc49) (cwV 0 hts gX7_write_X7_keeps rfl rfl rfl (by decide +kernel) ⟨Nat.le_of_ble_eq_true rfl, Nat.le_of_ble_eq_true rfl⟩) rfl hK hP hD hS hA [0, 1, 2, 3] [] [0, 1, 2, 3] rfl rfl rfl rfl rfl (by decide) rfl rfl rfl 0 rfl rfl rfl (Nat.le_of_ble_eq_true rfl) dX7_write_49 ⟨Nat.zero_le _, Nat.zero_le _⟩ rfl (fun H locs hP hD hS => ?_)
      refine lv_aload_n hx hb dX7_write_52 rfl (lv_at hl 0 rfl) ?_
      refine lv_iconst (v := (0 : Int32)) hx hb dX7_write_53 (by decide) ?_
      refine lv_iload_n hx hb dX7_write_54 rfl (lv_at hl 1 rfl) ?_
      refine lv_iload_n hx hb dX7_write_55 rfl (lv_at hl 2 rfl) ?_
      refine lv_aload_n hx hb dX7_write_56 rfl (lv_at hl 0 rfl) ?_
      refine va_get (D := g.1) (ci := 7) (v := .ref (ad 1)) (C := RX7) (T := TX7) (N := 5) hx hb hts inX7_write_RX7 hown hK hP 0 rfl rfl 0 (Nat.le_of_ble_eq_true rfl) (hts _ (List.mem_of_getElem? (i := 1) rfl)) (fun _ h9 => h9) rfl dX7_write_57 ?_
      refine lv_iconst (v := (4 : Int32)) hx hb dX7_write_60 (by decide) ?_
      refine va_iald (D := g.1) (f := (V 0)) hx hb hK hP 1 0 rfl rfl (az_vin (by decide +kernel)) dX7_write_61 ?_
      refine lv_iconst (v := (1 : Int32)) hx hb dX7_write_62 (by decide) ?_
      obtain ⟨o63, hc63, h⟩ := az_bnd h
      refine az_callVi (w2 := az_cM g ad (va_up (va_up (va_up V 0 o63.2) 1 o49.1) 2 o49.2)) (As := [.int (0 : Int32), .int x1, .int x2, .int ((V 0) (4 : Int32).toNatClampNeg), .int (1 : Int32)]) (rest := []) ⟨hx, hb, hml, hown, hts⟩ hl.1 (kX7_appends l g ad (va_up (va_up V 1 o49.1) 2 o49.2) (0 : Int32) x1 x2 ((V 0) (4 : Int32).toNatClampNeg) (1 : Int32) o63 hc63) (cwV 5 hts gX7_write_X7_appends rfl rfl rfl (by decide +kernel) ⟨Nat.le_of_ble_eq_true rfl, Nat.le_of_ble_eq_true rfl⟩) rfl hK hP hD hS hA [0, 1, 2, 3] [] [0, 1, 2, 3] rfl rfl rfl rfl rfl (by decide) rfl rfl rfl 0 rfl rfl rfl (Nat.le_of_ble_eq_true rfl) dX7_write_63 ⟨Nat.zero_le _, Nat.zero_le _⟩ rfl (fun H locs hP hD hS => ?_)
      refine lv_istore_n (lv' := [(3, .int o63.1), (0, .ref (ad 0)), (1, .int x1), (2, .int x2)]) hx hb dX7_write_66 rfl hl (by decide) rfl (fun ls hl => ?_)
      refine lv_aload_n hx hb dX7_write_67 rfl (lv_at hl 1 rfl) ?_
      refine lv_iload_n hx hb dX7_write_68 rfl (lv_at hl 2 rfl) ?_
      obtain ⟨o69, hc69, h⟩ := az_bnd h
      refine az_callVv (w2 := az_cM g ad (va_up (va_up (va_up V 0 o69) 1 o49.1) 2 o49.2)) (As := [.int x1]) (rest := []) ⟨hx, hb, hml, hown, hts⟩ hl.1 (kX7_ends l g ad (va_up (va_up (va_up V 0 o63.2) 1 o49.1) 2 o49.2) x1 o69 hc69) (cwV 1 hts gX7_write_X7_ends rfl rfl rfl (by decide +kernel) ⟨Nat.le_of_ble_eq_true rfl, Nat.le_of_ble_eq_true rfl⟩) rfl hK hP hD hS hA [0, 1, 2, 3] [] [0, 1, 2, 3] rfl rfl rfl rfl rfl (by decide) rfl rfl rfl 0 rfl rfl rfl (Nat.le_of_ble_eq_true rfl) dX7_write_69 ⟨Nat.zero_le _, Nat.zero_le _⟩ rfl (fun H locs hP hD hS => ?_)
      refine lv_aload_n hx hb dX7_write_72 rfl (lv_at hl 1 rfl) ?_
      refine va_get (D := g.1) (ci := 7) (v := .ref (ad 1)) (C := RX7) (T := TX7) (N := 5) hx hb hts inX7_write_RX7 hown hK hP 0 rfl rfl 0 (Nat.le_of_ble_eq_true rfl) (hts _ (List.mem_of_getElem? (i := 1) rfl)) (fun _ h9 => h9) rfl dX7_write_73 ?_
      refine lv_sipush (v := (840 : Int32)) hx hb dX7_write_76 (by decide) ?_
      refine lv_iload_n hx hb dX7_write_79 rfl (lv_at hl 2 rfl) ?_
      refine lv_iadd hx hb dX7_write_80 ?_
      refine lv_iload_n hx hb dX7_write_81 rfl (lv_at hl 0 rfl) ?_
      obtain ⟨i82, h⟩ := az_ite h
      refine va_iast (D := g.1) (f := o69) hx hb hK hP hD hS 1 0 rfl rfl (az_vin i82) dX7_write_82 (fun H locs hP hD hS => ?_)
      obtain ⟨u82, e82⟩ : ∃ w : Nat → Int32, w = upd o69 ((840 : Int32) + x1).toNatClampNeg o63.1 := ⟨_, rfl⟩
      have hP : va_P g.1 az_cl (az_cM g ad (va_up (va_up (va_up V 0 u82) 1 o49.1) 2 o49.2)) H := by rw [e82]; exact hP
      have hD : va_D A (az_cM g ad (va_up (va_up (va_up V 0 u82) 1 o49.1) 2 o49.2)) := by rw [e82]; exact hD
      replace h := az_let e82 h
      refine lv_aload_n hx hb dX7_write_83 rfl (lv_at hl 1 rfl) ?_
      refine va_get (D := g.1) (ci := 7) (v := .ref (ad 1)) (C := RX7) (T := TX7) (N := 5) hx hb hts inX7_write_RX7 hown hK hP 0 rfl rfl 0 (Nat.le_of_ble_eq_true rfl) (hts _ (List.mem_of_getElem? (i := 1) rfl)) (fun _ h9 => h9) rfl dX7_write_84 ?_
      refine lv_bipush (v := (6 : Int32)) hx hb dX7_write_87 (by decide) ?_
      refine lv_dup2_11 hx hb dX7_write_89 rfl rfl ?_
      refine va_iald (D := g.1) (f := u82) hx hb hK hP 1 0 rfl rfl (az_vin (by decide +kernel)) dX7_write_90 ?_
      refine lv_iconst (v := (1 : Int32)) hx hb dX7_write_91 (by decide) ?_
      refine lv_iadd hx hb dX7_write_92 ?_
      refine va_iast (D := g.1) (f := u82) hx hb hK hP hD hS 1 0 rfl rfl (az_vin (by decide +kernel)) dX7_write_93 (fun H locs hP hD hS => ?_)
      obtain ⟨u93, e93⟩ : ∃ w : Nat → Int32, w = upd u82 (6 : Int32).toNatClampNeg ((u82 (6 : Int32).toNatClampNeg) + (1 : Int32)) := ⟨_, rfl⟩
      have hP : va_P g.1 az_cl (az_cM g ad (va_up (va_up (va_up V 0 u93) 1 o49.1) 2 o49.2)) H := by rw [e93]; exact hP
      have hD : va_D A (az_cM g ad (va_up (va_up (va_up V 0 u93) 1 o49.1) 2 o49.2)) := by rw [e93]; exact hD
      replace h := az_let e93 h
      refine lv_iload_n hx hb dX7_write_94 rfl (lv_at hl 0 rfl) ?_
      have hP : va_P g.1 az_cl (az_cM g ad (va_up (va_up (va_up V 0 u93) 1 o49.1) 2 o49.2)) _ := hP
      have hD : va_D A (az_cM g ad (va_up (va_up (va_up V 0 u93) 1 o49.1) 2 o49.2)) := hD
      rw [← Option.some.inj h]
      exact az_iret hx hb hr hlocks hK hP hD hS dX7_write_95
    · replace h := az_neg c43 h
      refine lv_iconst (v := (0 : Int32)) hx hb dX7_write_46 (by decide) ?_
      have hP : va_P g.1 az_cl (az_cM g ad (va_up (va_up (va_up V 0 (V 0)) 1 (V 1)) 2 u36)) _ := hP
      have hD : va_D A (az_cM g ad (va_up (va_up (va_up V 0 (V 0)) 1 (V 1)) 2 u36)) := hD
      rw [← Option.some.inj h]
      exact az_iret hx hb hr hlocks hK hP hD hS dX7_write_47

def FX7_delete (V : az_St) (x1 : Int32) : Option (Int32 × (Nat → Int32) × (Nat → Int32) × (Nat → Int32)) := (FX7_isKey x1).bind (fun o2 => if o2 = (0 : Int32) then (az_lt (upd (V 2) 1 (1 : Int32)) (fun u31 => if u31 1 ≤ (0 : Int32) then ((FX7_keeps (va_up V 2 u31)).bind (fun o44 => if az_in ((840 : Int32) + x1) 1036 = true then (FX7_ends (va_up (va_up V 1 o44.1) 2 o44.2) x1).bind (fun o60 => some ((V 0) ((840 : Int32) + x1).toNatClampNeg, o60, o44.1, o44.2)) else none)) else (some ((0 : Int32), (V 0), (V 1), u31)))) else (if az_in ((840 : Int32) + x1) 1036 = true then if (V 0) ((840 : Int32) + x1).toNatClampNeg = (-1 : Int32) then (az_lt (upd (V 2) 1 (2 : Int32)) (fun u31 => if u31 1 ≤ (0 : Int32) then ((FX7_keeps (va_up V 2 u31)).bind (fun o44 => (FX7_ends (va_up (va_up V 1 o44.1) 2 o44.2) x1).bind (fun o60 => some ((V 0) ((840 : Int32) + x1).toNatClampNeg, o60, o44.1, o44.2)))) else (some ((0 : Int32), (V 0), (V 1), u31)))) else (az_lt (upd (V 2) 1 (0 : Int32)) (fun u31 => if u31 1 ≤ (0 : Int32) then ((FX7_keeps (va_up V 2 u31)).bind (fun o44 => (FX7_ends (va_up (va_up V 1 o44.1) 2 o44.2) x1).bind (fun o60 => some ((V 0) ((840 : Int32) + x1).toNatClampNeg, o60, o44.1, o44.2)))) else (some ((0 : Int32), (V 0), (V 1), u31)))) else none))
theorem inX7_delete_RX7 : ∀ w ∈ wsX70, w ∈ wsX7_delete := az_inr [41, 42, 43, 44, 45] (by decide +kernel)
set_option maxHeartbeats 4000000 in
set_option maxRecDepth 100000 in
theorem kX7_delete (l : Launch) (g : az_G) (ad : Nat → Nat) (V : az_St) (x1 : Int32) (o : Int32 × (Nat → Int32) × (Nat → Int32) × (Nat → Int32)) (h : FX7_delete V x1 = some o) : az_I l yX7_delete wsX7_delete ({ frames := 3, cells := 0, slots := 0, locals := 68 } : Room) [.ref (ad 0), .int x1] g (az_cM g ad V) o.1 (az_cM g ad (va_up (va_up (va_up V 0 o.2.1) 1 o.2.2.1) 2 o.2.2.2)) := by
  refine az_body (cc := cX7_delete) (maxL := 3) (ret := (some .int)) (Qc := fun A => az_QI g (az_cM g ad (va_up (va_up (va_up V 0 o.2.1) 1 o.2.2.1) 2 o.2.2.2)) o.1 A) (by decide +kernel) rfl (Nat.le_of_ble_eq_true rfl) ?_
  intro p e s m args below meth c A hx hb hr hts hown hml hlocks hA hK hP hD hS ls hl
  have hl : lv_has ls 3 [(0, .ref (ad 0)), (1, .int x1)] := hl
  unfold FX7_delete at h
  refine lv_aload_n hx hb dX7_delete_0 rfl (lv_at hl 0 rfl) ?_
  refine lv_iload_n hx hb dX7_delete_1 rfl (lv_at hl 1 rfl) ?_
  obtain ⟨o2, hc2, h⟩ := az_bnd h
  refine az_callS0 (As := [.int x1]) (rest := [.ref (ad 0)]) ⟨hx, hb, hml, hown, hts⟩ hl.1 (kX7_isKey l g x1 o2 hc2) (va_cwS 1 hts gX7_delete_X7_isKey rfl rfl rfl (by decide +kernel) ⟨Nat.le_of_ble_eq_true rfl, Nat.le_of_ble_eq_true rfl⟩) rfl hK hP hS hA (Nat.le_of_ble_eq_true rfl) dX7_delete_2 ⟨Nat.zero_le _, Nat.zero_le _⟩ rfl (fun H locs hP hS => ?_)
  refine lv_if_ne (tgt := 12) hx hb dX7_delete_5 (by decide) (fun c5 => ?_) (fun c5 => ?_)
  · replace h := az_neg c5 h
    refine lv_aload_n hx hb dX7_delete_12 rfl (lv_at hl 0 rfl) ?_
    refine va_get (D := g.1) (ci := 7) (v := .ref (ad 1)) (C := RX7) (T := TX7) (N := 5) hx hb hts inX7_delete_RX7 hown hK hP 0 rfl rfl 0 (Nat.le_of_ble_eq_true rfl) (hts _ (List.mem_of_getElem? (i := 1) rfl)) (fun _ h9 => h9) rfl dX7_delete_13 ?_
    refine lv_sipush (v := (840 : Int32)) hx hb dX7_delete_16 (by decide) ?_
    refine lv_iload_n hx hb dX7_delete_19 rfl (lv_at hl 1 rfl) ?_
    refine lv_iadd hx hb dX7_delete_20 ?_
    obtain ⟨i21, h⟩ := az_ite h
    refine va_iald (D := g.1) (f := (V 0)) hx hb hK hP 1 0 rfl rfl (az_vin i21) dX7_delete_21 ?_
    refine lv_iconst (v := (-1 : Int32)) hx hb dX7_delete_22 (by decide) ?_
    refine lv_icmp_ne (tgt := 30) hx hb dX7_delete_23 (by decide) (fun c23 => ?_) (fun c23 => ?_)
    · replace h := az_neg c23 h
      refine lv_iconst (v := (0 : Int32)) hx hb dX7_delete_30 (by decide) ?_
      refine va_put (D := g.1) (ci := 7) (v := .int (0 : Int32)) (ty := .int) (C := RX7) (T := TX7) (N := 5) hx hb hts inX7_delete_RX7 tyX7 tyX7_ok nmX7 hown hK hP hD hS 0 rfl rfl 3 (Nat.le_of_ble_eq_true rfl) (hts _ (List.mem_of_getElem? (i := 2) rfl)) (fun _ h9 => h9) rfl (by decide +kernel) rfl rfl (Nat.le_of_ble_eq_true rfl) dX7_delete_31 (fun H locs hP hD hS => ?_)
      obtain ⟨u31, e31⟩ : ∃ w : Nat → Int32, w = upd (V 2) 1 (0 : Int32) := ⟨_, rfl⟩
      have hP : va_P g.1 az_cl (az_cM g ad (va_up V 2 u31)) H := by rw [e31]; exact hP
      have hD : va_D A (az_cM g ad (va_up V 2 u31)) := by rw [e31]; exact hD
      replace h := az_let e31 h
      refine lv_aload_n hx hb dX7_delete_34 rfl (lv_at hl 0 rfl) ?_
      refine va_get (D := g.1) (ci := 7) (v := .int (u31 1)) (C := RX7) (T := TX7) (N := 5) hx hb hts inX7_delete_RX7 hown hK hP 0 rfl rfl 3 (Nat.le_of_ble_eq_true rfl) (hts _ (List.mem_of_getElem? (i := 2) rfl)) (fun _ h9 => h9) rfl dX7_delete_35 ?_
      refine lv_if_le (tgt := 43) hx hb dX7_delete_38 (by decide) (fun c38 => ?_) (fun c38 => ?_)
      · replace h := az_pos c38 h
        refine lv_aload_n hx hb dX7_delete_43 rfl (lv_at hl 0 rfl) ?_
        obtain ⟨o44, hc44, h⟩ := az_bnd h
        refine az_callVv (w2 := az_cM g ad (va_up (va_up V 1 o44.1) 2 o44.2)) (As := []) (rest := []) ⟨hx, hb, hml, hown, hts⟩ hl.1 (kX7_keeps l g ad (va_up V 2 u31) o44 hc44) (cwV 0 hts gX7_delete_X7_keeps rfl rfl rfl (by decide +kernel) ⟨Nat.le_of_ble_eq_true rfl, Nat.le_of_ble_eq_true rfl⟩) rfl hK hP hD hS hA [0, 1, 2, 3] [] [0, 1, 2, 3] rfl rfl rfl rfl rfl (by decide) rfl rfl rfl 0 rfl rfl rfl (Nat.le_of_ble_eq_true rfl) dX7_delete_44 ⟨Nat.zero_le _, Nat.zero_le _⟩ rfl (fun H locs hP hD hS => ?_)
        refine lv_aload_n hx hb dX7_delete_47 rfl (lv_at hl 0 rfl) ?_
        refine va_get (D := g.1) (ci := 7) (v := .ref (ad 1)) (C := RX7) (T := TX7) (N := 5) hx hb hts inX7_delete_RX7 hown hK hP 0 rfl rfl 0 (Nat.le_of_ble_eq_true rfl) (hts _ (List.mem_of_getElem? (i := 1) rfl)) (fun _ h9 => h9) rfl dX7_delete_48 ?_
        refine lv_sipush (v := (840 : Int32)) hx hb dX7_delete_51 (by decide) ?_
        refine lv_iload_n hx hb dX7_delete_54 rfl (lv_at hl 1 rfl) ?_
        refine lv_iadd hx hb dX7_delete_55 ?_
        refine va_iald (D := g.1) (f := (V 0)) hx hb hK hP 1 0 rfl rfl (az_vin i21) dX7_delete_56 ?_
        refine lv_istore_n (lv' := [(2, .int ((V 0) ((840 : Int32) + x1).toNatClampNeg)), (0, .ref (ad 0)), (1, .int x1)]) hx hb dX7_delete_57 rfl hl (by decide) rfl (fun ls hl => ?_)
        refine lv_aload_n hx hb dX7_delete_58 rfl (lv_at hl 1 rfl) ?_
        refine lv_iload_n hx hb dX7_delete_59 rfl (lv_at hl 2 rfl) ?_
        obtain ⟨o60, hc60, h⟩ := az_bnd h
        refine az_callVv (w2 := az_cM g ad (va_up (va_up (va_up V 0 o60) 1 o44.1) 2 o44.2)) (As := [.int x1]) (rest := []) ⟨hx, hb, hml, hown, hts⟩ hl.1 (kX7_ends l g ad (va_up (va_up V 1 o44.1) 2 o44.2) x1 o60 hc60) (cwV 1 hts gX7_delete_X7_ends rfl rfl rfl (by decide +kernel) ⟨Nat.le_of_ble_eq_true rfl, Nat.le_of_ble_eq_true rfl⟩) rfl hK hP hD hS hA [0, 1, 2, 3] [] [0, 1, 2, 3] rfl rfl rfl rfl rfl (by decide) rfl rfl rfl 0 rfl rfl rfl (Nat.le_of_ble_eq_true rfl) dX7_delete_60 ⟨Nat.zero_le _, Nat.zero_le _⟩ rfl (fun H locs hP hD hS => ?_)
        refine lv_iload_n hx hb dX7_delete_63 rfl (lv_at hl 0 rfl) ?_
        have hP : va_P g.1 az_cl (az_cM g ad (va_up (va_up (va_up V 0 o60) 1 o44.1) 2 o44.2)) _ := hP
        have hD : va_D A (az_cM g ad (va_up (va_up (va_up V 0 o60) 1 o44.1) 2 o44.2)) := hD
        rw [← Option.some.inj h]
        exact az_iret hx hb hr hlocks hK hP hD hS dX7_delete_64
      · replace h := az_neg c38 h
        refine lv_iconst (v := (0 : Int32)) hx hb dX7_delete_41 (by decide) ?_
        have hP : va_P g.1 az_cl (az_cM g ad (va_up (va_up (va_up V 0 (V 0)) 1 (V 1)) 2 u31)) _ := hP
        have hD : va_D A (az_cM g ad (va_up (va_up (va_up V 0 (V 0)) 1 (V 1)) 2 u31)) := hD
        rw [← Option.some.inj h]
        exact az_iret hx hb hr hlocks hK hP hD hS dX7_delete_42
    · replace h := az_pos c23 h
      refine lv_iconst (v := (2 : Int32)) hx hb dX7_delete_26 (by decide) ?_
      refine lv_goto (tgt := 31) hx hb dX7_delete_27 (by decide) ?_
      refine va_put (D := g.1) (ci := 7) (v := .int (2 : Int32)) (ty := .int) (C := RX7) (T := TX7) (N := 5) hx hb hts inX7_delete_RX7 tyX7 tyX7_ok nmX7 hown hK hP hD hS 0 rfl rfl 3 (Nat.le_of_ble_eq_true rfl) (hts _ (List.mem_of_getElem? (i := 2) rfl)) (fun _ h9 => h9) rfl (by decide +kernel) rfl rfl (Nat.le_of_ble_eq_true rfl) dX7_delete_31 (fun H locs hP hD hS => ?_)
      obtain ⟨u31, e31⟩ : ∃ w : Nat → Int32, w = upd (V 2) 1 (2 : Int32) := ⟨_, rfl⟩
      have hP : va_P g.1 az_cl (az_cM g ad (va_up V 2 u31)) H := by rw [e31]; exact hP
      have hD : va_D A (az_cM g ad (va_up V 2 u31)) := by rw [e31]; exact hD
      replace h := az_let e31 h
      refine lv_aload_n hx hb dX7_delete_34 rfl (lv_at hl 0 rfl) ?_
      refine va_get (D := g.1) (ci := 7) (v := .int (u31 1)) (C := RX7) (T := TX7) (N := 5) hx hb hts inX7_delete_RX7 hown hK hP 0 rfl rfl 3 (Nat.le_of_ble_eq_true rfl) (hts _ (List.mem_of_getElem? (i := 2) rfl)) (fun _ h9 => h9) rfl dX7_delete_35 ?_
      refine lv_if_le (tgt := 43) hx hb dX7_delete_38 (by decide) (fun c38 => ?_) (fun c38 => ?_)
      · replace h := az_pos c38 h
        refine lv_aload_n hx hb dX7_delete_43 rfl (lv_at hl 0 rfl) ?_
        obtain ⟨o44, hc44, h⟩ := az_bnd h
        refine az_callVv (w2 := az_cM g ad (va_up (va_up V 1 o44.1) 2 o44.2)) (As := []) (rest := []) ⟨hx, hb, hml, hown, hts⟩ hl.1 (kX7_keeps l g ad (va_up V 2 u31) o44 hc44) (cwV 0 hts gX7_delete_X7_keeps rfl rfl rfl (by decide +kernel) ⟨Nat.le_of_ble_eq_true rfl, Nat.le_of_ble_eq_true rfl⟩) rfl hK hP hD hS hA [0, 1, 2, 3] [] [0, 1, 2, 3] rfl rfl rfl rfl rfl (by decide) rfl rfl rfl 0 rfl rfl rfl (Nat.le_of_ble_eq_true rfl) dX7_delete_44 ⟨Nat.zero_le _, Nat.zero_le _⟩ rfl (fun H locs hP hD hS => ?_)
        refine lv_aload_n hx hb dX7_delete_47 rfl (lv_at hl 0 rfl) ?_
        refine va_get (D := g.1) (ci := 7) (v := .ref (ad 1)) (C := RX7) (T := TX7) (N := 5) hx hb hts inX7_delete_RX7 hown hK hP 0 rfl rfl 0 (Nat.le_of_ble_eq_true rfl) (hts _ (List.mem_of_getElem? (i := 1) rfl)) (fun _ h9 => h9) rfl dX7_delete_48 ?_
        refine lv_sipush (v := (840 : Int32)) hx hb dX7_delete_51 (by decide) ?_
        refine lv_iload_n hx hb dX7_delete_54 rfl (lv_at hl 1 rfl) ?_
        refine lv_iadd hx hb dX7_delete_55 ?_
        refine va_iald (D := g.1) (f := (V 0)) hx hb hK hP 1 0 rfl rfl (az_vin i21) dX7_delete_56 ?_
        refine lv_istore_n (lv' := [(2, .int ((V 0) ((840 : Int32) + x1).toNatClampNeg)), (0, .ref (ad 0)), (1, .int x1)]) hx hb dX7_delete_57 rfl hl (by decide) rfl (fun ls hl => ?_)
        refine lv_aload_n hx hb dX7_delete_58 rfl (lv_at hl 1 rfl) ?_
        refine lv_iload_n hx hb dX7_delete_59 rfl (lv_at hl 2 rfl) ?_
        obtain ⟨o60, hc60, h⟩ := az_bnd h
        refine az_callVv (w2 := az_cM g ad (va_up (va_up (va_up V 0 o60) 1 o44.1) 2 o44.2)) (As := [.int x1]) (rest := []) ⟨hx, hb, hml, hown, hts⟩ hl.1 (kX7_ends l g ad (va_up (va_up V 1 o44.1) 2 o44.2) x1 o60 hc60) (cwV 1 hts gX7_delete_X7_ends rfl rfl rfl (by decide +kernel) ⟨Nat.le_of_ble_eq_true rfl, Nat.le_of_ble_eq_true rfl⟩) rfl hK hP hD hS hA [0, 1, 2, 3] [] [0, 1, 2, 3] rfl rfl rfl rfl rfl (by decide) rfl rfl rfl 0 rfl rfl rfl (Nat.le_of_ble_eq_true rfl) dX7_delete_60 ⟨Nat.zero_le _, Nat.zero_le _⟩ rfl (fun H locs hP hD hS => ?_)
        refine lv_iload_n hx hb dX7_delete_63 rfl (lv_at hl 0 rfl) ?_
        have hP : va_P g.1 az_cl (az_cM g ad (va_up (va_up (va_up V 0 o60) 1 o44.1) 2 o44.2)) _ := hP
        have hD : va_D A (az_cM g ad (va_up (va_up (va_up V 0 o60) 1 o44.1) 2 o44.2)) := hD
        rw [← Option.some.inj h]
        exact az_iret hx hb hr hlocks hK hP hD hS dX7_delete_64
      · replace h := az_neg c38 h
        refine lv_iconst (v := (0 : Int32)) hx hb dX7_delete_41 (by decide) ?_
        have hP : va_P g.1 az_cl (az_cM g ad (va_up (va_up (va_up V 0 (V 0)) 1 (V 1)) 2 u31)) _ := hP
        have hD : va_D A (az_cM g ad (va_up (va_up (va_up V 0 (V 0)) 1 (V 1)) 2 u31)) := hD
        rw [← Option.some.inj h]
        exact az_iret hx hb hr hlocks hK hP hD hS dX7_delete_42
  · replace h := az_pos c5 h
    refine lv_iconst (v := (1 : Int32)) hx hb dX7_delete_8 (by decide) ?_
    refine lv_goto (tgt := 31) hx hb dX7_delete_9 (by decide) ?_
    refine va_put (D := g.1) (ci := 7) (v := .int (1 : Int32)) (ty := .int) (C := RX7) (T := TX7) (N := 5) hx hb hts inX7_delete_RX7 tyX7 tyX7_ok nmX7 hown hK hP hD hS 0 rfl rfl 3 (Nat.le_of_ble_eq_true rfl) (hts _ (List.mem_of_getElem? (i := 2) rfl)) (fun _ h9 => h9) rfl (by decide +kernel) rfl rfl (Nat.le_of_ble_eq_true rfl) dX7_delete_31 (fun H locs hP hD hS => ?_)
    obtain ⟨u31, e31⟩ : ∃ w : Nat → Int32, w = upd (V 2) 1 (1 : Int32) := ⟨_, rfl⟩
    have hP : va_P g.1 az_cl (az_cM g ad (va_up V 2 u31)) H := by rw [e31]; exact hP
    have hD : va_D A (az_cM g ad (va_up V 2 u31)) := by rw [e31]; exact hD
    replace h := az_let e31 h
    refine lv_aload_n hx hb dX7_delete_34 rfl (lv_at hl 0 rfl) ?_
    refine va_get (D := g.1) (ci := 7) (v := .int (u31 1)) (C := RX7) (T := TX7) (N := 5) hx hb hts inX7_delete_RX7 hown hK hP 0 rfl rfl 3 (Nat.le_of_ble_eq_true rfl) (hts _ (List.mem_of_getElem? (i := 2) rfl)) (fun _ h9 => h9) rfl dX7_delete_35 ?_
    refine lv_if_le (tgt := 43) hx hb dX7_delete_38 (by decide) (fun c38 => ?_) (fun c38 => ?_)
    · replace h := az_pos c38 h
      refine lv_aload_n hx hb dX7_delete_43 rfl (lv_at hl 0 rfl) ?_
      obtain ⟨o44, hc44, h⟩ := az_bnd h
      refine az_callVv (w2 := az_cM g ad (va_up (va_up V 1 o44.1) 2 o44.2)) (As := []) (rest := []) ⟨hx, hb, hml, hown, hts⟩ hl.1 (kX7_keeps l g ad (va_up V 2 u31) o44 hc44) (cwV 0 hts gX7_delete_X7_keeps rfl rfl rfl (by decide +kernel) ⟨Nat.le_of_ble_eq_true rfl, Nat.le_of_ble_eq_true rfl⟩) rfl hK hP hD hS hA [0, 1, 2, 3] [] [0, 1, 2, 3] rfl rfl rfl rfl rfl (by decide) rfl rfl rfl 0 rfl rfl rfl (Nat.le_of_ble_eq_true rfl) dX7_delete_44 ⟨Nat.zero_le _, Nat.zero_le _⟩ rfl (fun H locs hP hD hS => ?_)
      refine lv_aload_n hx hb dX7_delete_47 rfl (lv_at hl 0 rfl) ?_
      refine va_get (D := g.1) (ci := 7) (v := .ref (ad 1)) (C := RX7) (T := TX7) (N := 5) hx hb hts inX7_delete_RX7 hown hK hP 0 rfl rfl 0 (Nat.le_of_ble_eq_true rfl) (hts _ (List.mem_of_getElem? (i := 1) rfl)) (fun _ h9 => h9) rfl dX7_delete_48 ?_
      refine lv_sipush (v := (840 : Int32)) hx hb dX7_delete_51 (by decide) ?_
      refine lv_iload_n hx hb dX7_delete_54 rfl (lv_at hl 1 rfl) ?_
      refine lv_iadd hx hb dX7_delete_55 ?_
      obtain ⟨i56, h⟩ := az_ite h
      refine va_iald (D := g.1) (f := (V 0)) hx hb hK hP 1 0 rfl rfl (az_vin i56) dX7_delete_56 ?_
      refine lv_istore_n (lv' := [(2, .int ((V 0) ((840 : Int32) + x1).toNatClampNeg)), (0, .ref (ad 0)), (1, .int x1)]) hx hb dX7_delete_57 rfl hl (by decide) rfl (fun ls hl => ?_)
      refine lv_aload_n hx hb dX7_delete_58 rfl (lv_at hl 1 rfl) ?_
      refine lv_iload_n hx hb dX7_delete_59 rfl (lv_at hl 2 rfl) ?_
      obtain ⟨o60, hc60, h⟩ := az_bnd h
      refine az_callVv (w2 := az_cM g ad (va_up (va_up (va_up V 0 o60) 1 o44.1) 2 o44.2)) (As := [.int x1]) (rest := []) ⟨hx, hb, hml, hown, hts⟩ hl.1 (kX7_ends l g ad (va_up (va_up V 1 o44.1) 2 o44.2) x1 o60 hc60) (cwV 1 hts gX7_delete_X7_ends rfl rfl rfl (by decide +kernel) ⟨Nat.le_of_ble_eq_true rfl, Nat.le_of_ble_eq_true rfl⟩) rfl hK hP hD hS hA [0, 1, 2, 3] [] [0, 1, 2, 3] rfl rfl rfl rfl rfl (by decide) rfl rfl rfl 0 rfl rfl rfl (Nat.le_of_ble_eq_true rfl) dX7_delete_60 ⟨Nat.zero_le _, Nat.zero_le _⟩ rfl (fun H locs hP hD hS => ?_)
      refine lv_iload_n hx hb dX7_delete_63 rfl (lv_at hl 0 rfl) ?_
      have hP : va_P g.1 az_cl (az_cM g ad (va_up (va_up (va_up V 0 o60) 1 o44.1) 2 o44.2)) _ := hP
      have hD : va_D A (az_cM g ad (va_up (va_up (va_up V 0 o60) 1 o44.1) 2 o44.2)) := hD
      rw [← Option.some.inj h]
      exact az_iret hx hb hr hlocks hK hP hD hS dX7_delete_64
    · replace h := az_neg c38 h
      refine lv_iconst (v := (0 : Int32)) hx hb dX7_delete_41 (by decide) ?_
      have hP : va_P g.1 az_cl (az_cM g ad (va_up (va_up (va_up V 0 (V 0)) 1 (V 1)) 2 u31)) _ := hP
      have hD : va_D A (az_cM g ad (va_up (va_up (va_up V 0 (V 0)) 1 (V 1)) 2 u31)) := hD
      rw [← Option.some.inj h]
      exact az_iret hx hb hr hlocks hK hP hD hS dX7_delete_42

def FX7_get (V : az_St) (x1 : Int32) : Option (Int32 × (Nat → Int32)) := (FX7_isKey x1).bind (fun o2 => if o2 = (0 : Int32) then (az_lt (upd (V 2) 1 (1 : Int32)) (fun u31 => if u31 1 ≤ (0 : Int32) then (if az_in ((840 : Int32) + x1) 1036 = true then (FX7_ofBlock (va_up V 2 u31) ((V 0) ((840 : Int32) + x1).toNatClampNeg) (2 : Int32)).bind (fun o57 => some (o57, u31)) else none) else (some ((0 : Int32), u31)))) else (if az_in ((840 : Int32) + x1) 1036 = true then if (V 0) ((840 : Int32) + x1).toNatClampNeg = (-1 : Int32) then (az_lt (upd (V 2) 1 (2 : Int32)) (fun u31 => if u31 1 ≤ (0 : Int32) then ((FX7_ofBlock (va_up V 2 u31) ((V 0) ((840 : Int32) + x1).toNatClampNeg) (2 : Int32)).bind (fun o57 => some (o57, u31))) else (some ((0 : Int32), u31)))) else (az_lt (upd (V 2) 1 (0 : Int32)) (fun u31 => if u31 1 ≤ (0 : Int32) then ((FX7_ofBlock (va_up V 2 u31) ((V 0) ((840 : Int32) + x1).toNatClampNeg) (2 : Int32)).bind (fun o57 => some (o57, u31))) else (some ((0 : Int32), u31)))) else none))
theorem inX7_get_RX7 : ∀ w ∈ wsX70, w ∈ wsX7_get := az_inr [15, 16, 17, 18, 19] (by decide +kernel)
set_option maxHeartbeats 4000000 in
set_option maxRecDepth 100000 in
theorem kX7_get (l : Launch) (g : az_G) (ad : Nat → Nat) (V : az_St) (x1 : Int32) (o : Int32 × (Nat → Int32)) (h : FX7_get V x1 = some o) : az_I l yX7_get wsX7_get ({ frames := 2, cells := 0, slots := 0, locals := 45 } : Room) [.ref (ad 0), .int x1] g (az_cM g ad V) o.1 (az_cM g ad (va_up V 2 o.2)) := by
  refine az_body (cc := cX7_get) (maxL := 2) (ret := (some .int)) (Qc := fun A => az_QI g (az_cM g ad (va_up V 2 o.2)) o.1 A) (by decide +kernel) rfl (Nat.le_of_ble_eq_true rfl) ?_
  intro p e s m args below meth c A hx hb hr hts hown hml hlocks hA hK hP hD hS ls hl
  have hl : lv_has ls 2 [(0, .ref (ad 0)), (1, .int x1)] := hl
  unfold FX7_get at h
  refine lv_aload_n hx hb dX7_get_0 rfl (lv_at hl 0 rfl) ?_
  refine lv_iload_n hx hb dX7_get_1 rfl (lv_at hl 1 rfl) ?_
  obtain ⟨o2, hc2, h⟩ := az_bnd h
  refine az_callS0 (As := [.int x1]) (rest := [.ref (ad 0)]) ⟨hx, hb, hml, hown, hts⟩ hl.1 (kX7_isKey l g x1 o2 hc2) (va_cwS 1 hts gX7_get_X7_isKey rfl rfl rfl (by decide +kernel) ⟨Nat.le_of_ble_eq_true rfl, Nat.le_of_ble_eq_true rfl⟩) rfl hK hP hS hA (Nat.le_of_ble_eq_true rfl) dX7_get_2 ⟨Nat.zero_le _, Nat.zero_le _⟩ rfl (fun H locs hP hS => ?_)
  refine lv_if_ne (tgt := 12) hx hb dX7_get_5 (by decide) (fun c5 => ?_) (fun c5 => ?_)
  · replace h := az_neg c5 h
    refine lv_aload_n hx hb dX7_get_12 rfl (lv_at hl 0 rfl) ?_
    refine va_get (D := g.1) (ci := 7) (v := .ref (ad 1)) (C := RX7) (T := TX7) (N := 5) hx hb hts inX7_get_RX7 hown hK hP 0 rfl rfl 0 (Nat.le_of_ble_eq_true rfl) (hts _ (List.mem_of_getElem? (i := 1) rfl)) (fun _ h9 => h9) rfl dX7_get_13 ?_
    refine lv_sipush (v := (840 : Int32)) hx hb dX7_get_16 (by decide) ?_
    refine lv_iload_n hx hb dX7_get_19 rfl (lv_at hl 1 rfl) ?_
    refine lv_iadd hx hb dX7_get_20 ?_
    obtain ⟨i21, h⟩ := az_ite h
    refine va_iald (D := g.1) (f := (V 0)) hx hb hK hP 1 0 rfl rfl (az_vin i21) dX7_get_21 ?_
    refine lv_iconst (v := (-1 : Int32)) hx hb dX7_get_22 (by decide) ?_
    refine lv_icmp_ne (tgt := 30) hx hb dX7_get_23 (by decide) (fun c23 => ?_) (fun c23 => ?_)
    · replace h := az_neg c23 h
      refine lv_iconst (v := (0 : Int32)) hx hb dX7_get_30 (by decide) ?_
      refine va_put (D := g.1) (ci := 7) (v := .int (0 : Int32)) (ty := .int) (C := RX7) (T := TX7) (N := 5) hx hb hts inX7_get_RX7 tyX7 tyX7_ok nmX7 hown hK hP hD hS 0 rfl rfl 3 (Nat.le_of_ble_eq_true rfl) (hts _ (List.mem_of_getElem? (i := 2) rfl)) (fun _ h9 => h9) rfl (by decide +kernel) rfl rfl (Nat.le_of_ble_eq_true rfl) dX7_get_31 (fun H locs hP hD hS => ?_)
      obtain ⟨u31, e31⟩ : ∃ w : Nat → Int32, w = upd (V 2) 1 (0 : Int32) := ⟨_, rfl⟩
      have hP : va_P g.1 az_cl (az_cM g ad (va_up V 2 u31)) H := by rw [e31]; exact hP
      have hD : va_D A (az_cM g ad (va_up V 2 u31)) := by rw [e31]; exact hD
      replace h := az_let e31 h
      refine lv_aload_n hx hb dX7_get_34 rfl (lv_at hl 0 rfl) ?_
      refine va_get (D := g.1) (ci := 7) (v := .int (u31 1)) (C := RX7) (T := TX7) (N := 5) hx hb hts inX7_get_RX7 hown hK hP 0 rfl rfl 3 (Nat.le_of_ble_eq_true rfl) (hts _ (List.mem_of_getElem? (i := 2) rfl)) (fun _ h9 => h9) rfl dX7_get_35 ?_
      refine lv_if_le (tgt := 45) hx hb dX7_get_38 (by decide) (fun c38 => ?_) (fun c38 => ?_)
      · replace h := az_pos c38 h
        refine lv_aload_n hx hb dX7_get_45 rfl (lv_at hl 0 rfl) ?_
        refine lv_aload_n hx hb dX7_get_46 rfl (lv_at hl 0 rfl) ?_
        refine va_get (D := g.1) (ci := 7) (v := .ref (ad 1)) (C := RX7) (T := TX7) (N := 5) hx hb hts inX7_get_RX7 hown hK hP 0 rfl rfl 0 (Nat.le_of_ble_eq_true rfl) (hts _ (List.mem_of_getElem? (i := 1) rfl)) (fun _ h9 => h9) rfl dX7_get_47 ?_
        refine lv_sipush (v := (840 : Int32)) hx hb dX7_get_50 (by decide) ?_
        refine lv_iload_n hx hb dX7_get_53 rfl (lv_at hl 1 rfl) ?_
        refine lv_iadd hx hb dX7_get_54 ?_
        refine va_iald (D := g.1) (f := (V 0)) hx hb hK hP 1 0 rfl rfl (az_vin i21) dX7_get_55 ?_
        refine lv_iconst (v := (2 : Int32)) hx hb dX7_get_56 (by decide) ?_
        obtain ⟨o57, hc57, h⟩ := az_bnd h
        refine az_callVi (w2 := az_cM g ad (va_up V 2 u31)) (As := [.int ((V 0) ((840 : Int32) + x1).toNatClampNeg), .int (2 : Int32)]) (rest := []) ⟨hx, hb, hml, hown, hts⟩ hl.1 (kX7_ofBlock l g ad (va_up V 2 u31) ((V 0) ((840 : Int32) + x1).toNatClampNeg) (2 : Int32) o57 hc57) (cwV 2 hts gX7_get_X7_ofBlock rfl rfl rfl (by decide +kernel) ⟨Nat.le_of_ble_eq_true rfl, Nat.le_of_ble_eq_true rfl⟩) rfl hK hP hD hS hA [0, 1, 2, 3] [] [0, 1, 2, 3] rfl rfl rfl rfl rfl (by decide) rfl rfl rfl 0 rfl rfl rfl (Nat.le_of_ble_eq_true rfl) dX7_get_57 ⟨Nat.zero_le _, Nat.zero_le _⟩ rfl (fun H locs hP hD hS => ?_)
        have hP : va_P g.1 az_cl (az_cM g ad (va_up V 2 u31)) _ := hP
        have hD : va_D A (az_cM g ad (va_up V 2 u31)) := hD
        rw [← Option.some.inj h]
        exact az_iret hx hb hr hlocks hK hP hD hS dX7_get_60
      · replace h := az_neg c38 h
        refine lv_iconst (v := (0 : Int32)) hx hb dX7_get_41 (by decide) ?_
        refine lv_goto (tgt := 60) hx hb dX7_get_42 (by decide) ?_
        have hP : va_P g.1 az_cl (az_cM g ad (va_up V 2 u31)) _ := hP
        have hD : va_D A (az_cM g ad (va_up V 2 u31)) := hD
        rw [← Option.some.inj h]
        exact az_iret hx hb hr hlocks hK hP hD hS dX7_get_60
    · replace h := az_pos c23 h
      refine lv_iconst (v := (2 : Int32)) hx hb dX7_get_26 (by decide) ?_
      refine lv_goto (tgt := 31) hx hb dX7_get_27 (by decide) ?_
      refine va_put (D := g.1) (ci := 7) (v := .int (2 : Int32)) (ty := .int) (C := RX7) (T := TX7) (N := 5) hx hb hts inX7_get_RX7 tyX7 tyX7_ok nmX7 hown hK hP hD hS 0 rfl rfl 3 (Nat.le_of_ble_eq_true rfl) (hts _ (List.mem_of_getElem? (i := 2) rfl)) (fun _ h9 => h9) rfl (by decide +kernel) rfl rfl (Nat.le_of_ble_eq_true rfl) dX7_get_31 (fun H locs hP hD hS => ?_)
      obtain ⟨u31, e31⟩ : ∃ w : Nat → Int32, w = upd (V 2) 1 (2 : Int32) := ⟨_, rfl⟩
      have hP : va_P g.1 az_cl (az_cM g ad (va_up V 2 u31)) H := by rw [e31]; exact hP
      have hD : va_D A (az_cM g ad (va_up V 2 u31)) := by rw [e31]; exact hD
      replace h := az_let e31 h
      refine lv_aload_n hx hb dX7_get_34 rfl (lv_at hl 0 rfl) ?_
      refine va_get (D := g.1) (ci := 7) (v := .int (u31 1)) (C := RX7) (T := TX7) (N := 5) hx hb hts inX7_get_RX7 hown hK hP 0 rfl rfl 3 (Nat.le_of_ble_eq_true rfl) (hts _ (List.mem_of_getElem? (i := 2) rfl)) (fun _ h9 => h9) rfl dX7_get_35 ?_
      refine lv_if_le (tgt := 45) hx hb dX7_get_38 (by decide) (fun c38 => ?_) (fun c38 => ?_)
      · replace h := az_pos c38 h
        refine lv_aload_n hx hb dX7_get_45 rfl (lv_at hl 0 rfl) ?_
        refine lv_aload_n hx hb dX7_get_46 rfl (lv_at hl 0 rfl) ?_
        refine va_get (D := g.1) (ci := 7) (v := .ref (ad 1)) (C := RX7) (T := TX7) (N := 5) hx hb hts inX7_get_RX7 hown hK hP 0 rfl rfl 0 (Nat.le_of_ble_eq_true rfl) (hts _ (List.mem_of_getElem? (i := 1) rfl)) (fun _ h9 => h9) rfl dX7_get_47 ?_
        refine lv_sipush (v := (840 : Int32)) hx hb dX7_get_50 (by decide) ?_
        refine lv_iload_n hx hb dX7_get_53 rfl (lv_at hl 1 rfl) ?_
        refine lv_iadd hx hb dX7_get_54 ?_
        refine va_iald (D := g.1) (f := (V 0)) hx hb hK hP 1 0 rfl rfl (az_vin i21) dX7_get_55 ?_
        refine lv_iconst (v := (2 : Int32)) hx hb dX7_get_56 (by decide) ?_
        obtain ⟨o57, hc57, h⟩ := az_bnd h
        refine az_callVi (w2 := az_cM g ad (va_up V 2 u31)) (As := [.int ((V 0) ((840 : Int32) + x1).toNatClampNeg), .int (2 : Int32)]) (rest := []) ⟨hx, hb, hml, hown, hts⟩ hl.1 (kX7_ofBlock l g ad (va_up V 2 u31) ((V 0) ((840 : Int32) + x1).toNatClampNeg) (2 : Int32) o57 hc57) (cwV 2 hts gX7_get_X7_ofBlock rfl rfl rfl (by decide +kernel) ⟨Nat.le_of_ble_eq_true rfl, Nat.le_of_ble_eq_true rfl⟩) rfl hK hP hD hS hA [0, 1, 2, 3] [] [0, 1, 2, 3] rfl rfl rfl rfl rfl (by decide) rfl rfl rfl 0 rfl rfl rfl (Nat.le_of_ble_eq_true rfl) dX7_get_57 ⟨Nat.zero_le _, Nat.zero_le _⟩ rfl (fun H locs hP hD hS => ?_)
        have hP : va_P g.1 az_cl (az_cM g ad (va_up V 2 u31)) _ := hP
        have hD : va_D A (az_cM g ad (va_up V 2 u31)) := hD
        rw [← Option.some.inj h]
        exact az_iret hx hb hr hlocks hK hP hD hS dX7_get_60
      · replace h := az_neg c38 h
        refine lv_iconst (v := (0 : Int32)) hx hb dX7_get_41 (by decide) ?_
        refine lv_goto (tgt := 60) hx hb dX7_get_42 (by decide) ?_
        have hP : va_P g.1 az_cl (az_cM g ad (va_up V 2 u31)) _ := hP
        have hD : va_D A (az_cM g ad (va_up V 2 u31)) := hD
        rw [← Option.some.inj h]
        exact az_iret hx hb hr hlocks hK hP hD hS dX7_get_60
  · replace h := az_pos c5 h
    refine lv_iconst (v := (1 : Int32)) hx hb dX7_get_8 (by decide) ?_
    refine lv_goto (tgt := 31) hx hb dX7_get_9 (by decide) ?_
    refine va_put (D := g.1) (ci := 7) (v := .int (1 : Int32)) (ty := .int) (C := RX7) (T := TX7) (N := 5) hx hb hts inX7_get_RX7 tyX7 tyX7_ok nmX7 hown hK hP hD hS 0 rfl rfl 3 (Nat.le_of_ble_eq_true rfl) (hts _ (List.mem_of_getElem? (i := 2) rfl)) (fun _ h9 => h9) rfl (by decide +kernel) rfl rfl (Nat.le_of_ble_eq_true rfl) dX7_get_31 (fun H locs hP hD hS => ?_)
    obtain ⟨u31, e31⟩ : ∃ w : Nat → Int32, w = upd (V 2) 1 (1 : Int32) := ⟨_, rfl⟩
    have hP : va_P g.1 az_cl (az_cM g ad (va_up V 2 u31)) H := by rw [e31]; exact hP
    have hD : va_D A (az_cM g ad (va_up V 2 u31)) := by rw [e31]; exact hD
    replace h := az_let e31 h
    refine lv_aload_n hx hb dX7_get_34 rfl (lv_at hl 0 rfl) ?_
    refine va_get (D := g.1) (ci := 7) (v := .int (u31 1)) (C := RX7) (T := TX7) (N := 5) hx hb hts inX7_get_RX7 hown hK hP 0 rfl rfl 3 (Nat.le_of_ble_eq_true rfl) (hts _ (List.mem_of_getElem? (i := 2) rfl)) (fun _ h9 => h9) rfl dX7_get_35 ?_
    refine lv_if_le (tgt := 45) hx hb dX7_get_38 (by decide) (fun c38 => ?_) (fun c38 => ?_)
    · replace h := az_pos c38 h
      refine lv_aload_n hx hb dX7_get_45 rfl (lv_at hl 0 rfl) ?_
      refine lv_aload_n hx hb dX7_get_46 rfl (lv_at hl 0 rfl) ?_
      refine va_get (D := g.1) (ci := 7) (v := .ref (ad 1)) (C := RX7) (T := TX7) (N := 5) hx hb hts inX7_get_RX7 hown hK hP 0 rfl rfl 0 (Nat.le_of_ble_eq_true rfl) (hts _ (List.mem_of_getElem? (i := 1) rfl)) (fun _ h9 => h9) rfl dX7_get_47 ?_
      refine lv_sipush (v := (840 : Int32)) hx hb dX7_get_50 (by decide) ?_
      refine lv_iload_n hx hb dX7_get_53 rfl (lv_at hl 1 rfl) ?_
      refine lv_iadd hx hb dX7_get_54 ?_
      obtain ⟨i55, h⟩ := az_ite h
      refine va_iald (D := g.1) (f := (V 0)) hx hb hK hP 1 0 rfl rfl (az_vin i55) dX7_get_55 ?_
      refine lv_iconst (v := (2 : Int32)) hx hb dX7_get_56 (by decide) ?_
      obtain ⟨o57, hc57, h⟩ := az_bnd h
      refine az_callVi (w2 := az_cM g ad (va_up V 2 u31)) (As := [.int ((V 0) ((840 : Int32) + x1).toNatClampNeg), .int (2 : Int32)]) (rest := []) ⟨hx, hb, hml, hown, hts⟩ hl.1 (kX7_ofBlock l g ad (va_up V 2 u31) ((V 0) ((840 : Int32) + x1).toNatClampNeg) (2 : Int32) o57 hc57) (cwV 2 hts gX7_get_X7_ofBlock rfl rfl rfl (by decide +kernel) ⟨Nat.le_of_ble_eq_true rfl, Nat.le_of_ble_eq_true rfl⟩) rfl hK hP hD hS hA [0, 1, 2, 3] [] [0, 1, 2, 3] rfl rfl rfl rfl rfl (by decide) rfl rfl rfl 0 rfl rfl rfl (Nat.le_of_ble_eq_true rfl) dX7_get_57 ⟨Nat.zero_le _, Nat.zero_le _⟩ rfl (fun H locs hP hD hS => ?_)
      have hP : va_P g.1 az_cl (az_cM g ad (va_up V 2 u31)) _ := hP
      have hD : va_D A (az_cM g ad (va_up V 2 u31)) := hD
      rw [← Option.some.inj h]
      exact az_iret hx hb hr hlocks hK hP hD hS dX7_get_60
    · replace h := az_neg c38 h
      refine lv_iconst (v := (0 : Int32)) hx hb dX7_get_41 (by decide) ?_
      refine lv_goto (tgt := 60) hx hb dX7_get_42 (by decide) ?_
      have hP : va_P g.1 az_cl (az_cM g ad (va_up V 2 u31)) _ := hP
      have hD : va_D A (az_cM g ad (va_up V 2 u31)) := hD
      rw [← Option.some.inj h]
      exact az_iret hx hb hr hlocks hK hP hD hS dX7_get_60

def FX7_addressOf (V : az_St) (x1 : Int32) : Option (Int32 × (Nat → Int32)) := (FX7_isKey x1).bind (fun o2 => if o2 = (0 : Int32) then (az_lt (upd (V 2) 1 (1 : Int32)) (fun u13 => if u13 1 ≤ (0 : Int32) then (if az_in ((840 : Int32) + x1) 1036 = true then some ((V 0) ((840 : Int32) + x1).toNatClampNeg, u13) else none) else (some ((0 : Int32), u13)))) else (az_lt (upd (V 2) 1 (0 : Int32)) (fun u13 => if u13 1 ≤ (0 : Int32) then (if az_in ((840 : Int32) + x1) 1036 = true then some ((V 0) ((840 : Int32) + x1).toNatClampNeg, u13) else none) else (some ((0 : Int32), u13)))))
theorem inX7_addressOf_RX7 : ∀ w ∈ wsX70, w ∈ wsX7_addressOf := az_inr [11, 12, 13, 14, 15] (by decide +kernel)
set_option maxHeartbeats 4000000 in
set_option maxRecDepth 100000 in
theorem kX7_addressOf (l : Launch) (g : az_G) (ad : Nat → Nat) (V : az_St) (x1 : Int32) (o : Int32 × (Nat → Int32)) (h : FX7_addressOf V x1 = some o) : az_I l yX7_addressOf wsX7_addressOf ({ frames := 2, cells := 0, slots := 0, locals := 45 } : Room) [.ref (ad 0), .int x1] g (az_cM g ad V) o.1 (az_cM g ad (va_up V 2 o.2)) := by
  refine az_body (cc := cX7_addressOf) (maxL := 2) (ret := (some .int)) (Qc := fun A => az_QI g (az_cM g ad (va_up V 2 o.2)) o.1 A) (by decide +kernel) rfl (Nat.le_of_ble_eq_true rfl) ?_
  intro p e s m args below meth c A hx hb hr hts hown hml hlocks hA hK hP hD hS ls hl
  have hl : lv_has ls 2 [(0, .ref (ad 0)), (1, .int x1)] := hl
  unfold FX7_addressOf at h
  refine lv_aload_n hx hb dX7_addressOf_0 rfl (lv_at hl 0 rfl) ?_
  refine lv_iload_n hx hb dX7_addressOf_1 rfl (lv_at hl 1 rfl) ?_
  obtain ⟨o2, hc2, h⟩ := az_bnd h
  refine az_callS0 (As := [.int x1]) (rest := [.ref (ad 0)]) ⟨hx, hb, hml, hown, hts⟩ hl.1 (kX7_isKey l g x1 o2 hc2) (va_cwS 1 hts gX7_addressOf_X7_isKey rfl rfl rfl (by decide +kernel) ⟨Nat.le_of_ble_eq_true rfl, Nat.le_of_ble_eq_true rfl⟩) rfl hK hP hS hA (Nat.le_of_ble_eq_true rfl) dX7_addressOf_2 ⟨Nat.zero_le _, Nat.zero_le _⟩ rfl (fun H locs hP hS => ?_)
  refine lv_if_eq (tgt := 12) hx hb dX7_addressOf_5 (by decide) (fun c5 => ?_) (fun c5 => ?_)
  · replace h := az_pos c5 h
    refine lv_iconst (v := (1 : Int32)) hx hb dX7_addressOf_12 (by decide) ?_
    refine va_put (D := g.1) (ci := 7) (v := .int (1 : Int32)) (ty := .int) (C := RX7) (T := TX7) (N := 5) hx hb hts inX7_addressOf_RX7 tyX7 tyX7_ok nmX7 hown hK hP hD hS 0 rfl rfl 3 (Nat.le_of_ble_eq_true rfl) (hts _ (List.mem_of_getElem? (i := 1) rfl)) (fun _ h9 => h9) rfl (by decide +kernel) rfl rfl (Nat.le_of_ble_eq_true rfl) dX7_addressOf_13 (fun H locs hP hD hS => ?_)
    obtain ⟨u13, e13⟩ : ∃ w : Nat → Int32, w = upd (V 2) 1 (1 : Int32) := ⟨_, rfl⟩
    have hP : va_P g.1 az_cl (az_cM g ad (va_up V 2 u13)) H := by rw [e13]; exact hP
    have hD : va_D A (az_cM g ad (va_up V 2 u13)) := by rw [e13]; exact hD
    replace h := az_let e13 h
    refine lv_aload_n hx hb dX7_addressOf_16 rfl (lv_at hl 0 rfl) ?_
    refine va_get (D := g.1) (ci := 7) (v := .int (u13 1)) (C := RX7) (T := TX7) (N := 5) hx hb hts inX7_addressOf_RX7 hown hK hP 0 rfl rfl 3 (Nat.le_of_ble_eq_true rfl) (hts _ (List.mem_of_getElem? (i := 1) rfl)) (fun _ h9 => h9) rfl dX7_addressOf_17 ?_
    refine lv_if_le (tgt := 27) hx hb dX7_addressOf_20 (by decide) (fun c20 => ?_) (fun c20 => ?_)
    · replace h := az_pos c20 h
      refine lv_aload_n hx hb dX7_addressOf_27 rfl (lv_at hl 0 rfl) ?_
      refine va_get (D := g.1) (ci := 7) (v := .ref (ad 1)) (C := RX7) (T := TX7) (N := 5) hx hb hts inX7_addressOf_RX7 hown hK hP 0 rfl rfl 0 (Nat.le_of_ble_eq_true rfl) (hts _ (List.mem_of_getElem? (i := 2) rfl)) (fun _ h9 => h9) rfl dX7_addressOf_28 ?_
      refine lv_sipush (v := (840 : Int32)) hx hb dX7_addressOf_31 (by decide) ?_
      refine lv_iload_n hx hb dX7_addressOf_34 rfl (lv_at hl 1 rfl) ?_
      refine lv_iadd hx hb dX7_addressOf_35 ?_
      obtain ⟨i36, h⟩ := az_ite h
      refine va_iald (D := g.1) (f := (V 0)) hx hb hK hP 1 0 rfl rfl (az_vin i36) dX7_addressOf_36 ?_
      have hP : va_P g.1 az_cl (az_cM g ad (va_up V 2 u13)) _ := hP
      have hD : va_D A (az_cM g ad (va_up V 2 u13)) := hD
      rw [← Option.some.inj h]
      exact az_iret hx hb hr hlocks hK hP hD hS dX7_addressOf_37
    · replace h := az_neg c20 h
      refine lv_iconst (v := (0 : Int32)) hx hb dX7_addressOf_23 (by decide) ?_
      refine lv_goto (tgt := 37) hx hb dX7_addressOf_24 (by decide) ?_
      have hP : va_P g.1 az_cl (az_cM g ad (va_up V 2 u13)) _ := hP
      have hD : va_D A (az_cM g ad (va_up V 2 u13)) := hD
      rw [← Option.some.inj h]
      exact az_iret hx hb hr hlocks hK hP hD hS dX7_addressOf_37
  · replace h := az_neg c5 h
    refine lv_iconst (v := (0 : Int32)) hx hb dX7_addressOf_8 (by decide) ?_
    refine lv_goto (tgt := 13) hx hb dX7_addressOf_9 (by decide) ?_
    refine va_put (D := g.1) (ci := 7) (v := .int (0 : Int32)) (ty := .int) (C := RX7) (T := TX7) (N := 5) hx hb hts inX7_addressOf_RX7 tyX7 tyX7_ok nmX7 hown hK hP hD hS 0 rfl rfl 3 (Nat.le_of_ble_eq_true rfl) (hts _ (List.mem_of_getElem? (i := 1) rfl)) (fun _ h9 => h9) rfl (by decide +kernel) rfl rfl (Nat.le_of_ble_eq_true rfl) dX7_addressOf_13 (fun H locs hP hD hS => ?_)
    obtain ⟨u13, e13⟩ : ∃ w : Nat → Int32, w = upd (V 2) 1 (0 : Int32) := ⟨_, rfl⟩
    have hP : va_P g.1 az_cl (az_cM g ad (va_up V 2 u13)) H := by rw [e13]; exact hP
    have hD : va_D A (az_cM g ad (va_up V 2 u13)) := by rw [e13]; exact hD
    replace h := az_let e13 h
    refine lv_aload_n hx hb dX7_addressOf_16 rfl (lv_at hl 0 rfl) ?_
    refine va_get (D := g.1) (ci := 7) (v := .int (u13 1)) (C := RX7) (T := TX7) (N := 5) hx hb hts inX7_addressOf_RX7 hown hK hP 0 rfl rfl 3 (Nat.le_of_ble_eq_true rfl) (hts _ (List.mem_of_getElem? (i := 1) rfl)) (fun _ h9 => h9) rfl dX7_addressOf_17 ?_
    refine lv_if_le (tgt := 27) hx hb dX7_addressOf_20 (by decide) (fun c20 => ?_) (fun c20 => ?_)
    · replace h := az_pos c20 h
      refine lv_aload_n hx hb dX7_addressOf_27 rfl (lv_at hl 0 rfl) ?_
      refine va_get (D := g.1) (ci := 7) (v := .ref (ad 1)) (C := RX7) (T := TX7) (N := 5) hx hb hts inX7_addressOf_RX7 hown hK hP 0 rfl rfl 0 (Nat.le_of_ble_eq_true rfl) (hts _ (List.mem_of_getElem? (i := 2) rfl)) (fun _ h9 => h9) rfl dX7_addressOf_28 ?_
      refine lv_sipush (v := (840 : Int32)) hx hb dX7_addressOf_31 (by decide) ?_
      refine lv_iload_n hx hb dX7_addressOf_34 rfl (lv_at hl 1 rfl) ?_
      refine lv_iadd hx hb dX7_addressOf_35 ?_
      obtain ⟨i36, h⟩ := az_ite h
      refine va_iald (D := g.1) (f := (V 0)) hx hb hK hP 1 0 rfl rfl (az_vin i36) dX7_addressOf_36 ?_
      have hP : va_P g.1 az_cl (az_cM g ad (va_up V 2 u13)) _ := hP
      have hD : va_D A (az_cM g ad (va_up V 2 u13)) := hD
      rw [← Option.some.inj h]
      exact az_iret hx hb hr hlocks hK hP hD hS dX7_addressOf_37
    · replace h := az_neg c20 h
      refine lv_iconst (v := (0 : Int32)) hx hb dX7_addressOf_23 (by decide) ?_
      refine lv_goto (tgt := 37) hx hb dX7_addressOf_24 (by decide) ?_
      have hP : va_P g.1 az_cl (az_cM g ad (va_up V 2 u13)) _ := hP
      have hD : va_D A (az_cM g ad (va_up V 2 u13)) := hD
      rw [← Option.some.inj h]
      exact az_iret hx hb hr hlocks hK hP hD hS dX7_addressOf_37

def FX7_roomNow (V : az_St) : Option (Int32) := (FX7_frees V).bind (fun o1 => (FX7_leftIn V (0 : Int32)).bind (fun o9 => if (0 : Int32) ≤ o1 - (1 : Int32) then (some (o9 + ((o1 - (1 : Int32)) * ((V 0) (1 : Int32).toNatClampNeg)))) else (some (o9 + (0 : Int32)))))
theorem inX7_roomNow_RX7 : ∀ w ∈ wsX70, w ∈ wsX7_roomNow := az_inr [15, 16, 17, 18, 19] (by decide +kernel)
set_option maxHeartbeats 4000000 in
set_option maxRecDepth 100000 in
theorem kX7_roomNow (l : Launch) (g : az_G) (ad : Nat → Nat) (V : az_St) (o : Int32) (h : FX7_roomNow V = some o) : az_I l yX7_roomNow wsX7_roomNow ({ frames := 2, cells := 0, slots := 0, locals := 44 } : Room) [.ref (ad 0)] g (az_cM g ad V) o (az_cM g ad V) := by
  refine az_body (cc := cX7_roomNow) (maxL := 2) (ret := (some .int)) (Qc := fun A => az_QI g (az_cM g ad V) o A) (by decide +kernel) rfl (Nat.le_of_ble_eq_true rfl) ?_
  intro p e s m args below meth c A hx hb hr hts hown hml hlocks hA hK hP hD hS ls hl
  have hl : lv_has ls 2 [(0, .ref (ad 0))] := hl
  unfold FX7_roomNow at h
  refine lv_aload_n hx hb dX7_roomNow_0 rfl (lv_at hl 0 rfl) ?_
  obtain ⟨o1, hc1, h⟩ := az_bnd h
  refine az_callVi (w2 := az_cM g ad V) (As := []) (rest := []) ⟨hx, hb, hml, hown, hts⟩ hl.1 (kX7_frees l g ad V o1 hc1) (cwV 0 hts gX7_roomNow_X7_frees rfl rfl rfl (by decide +kernel) ⟨Nat.le_of_ble_eq_true rfl, Nat.le_of_ble_eq_true rfl⟩) rfl hK hP hD hS hA [0, 1, 2, 3] [] [0, 1, 2, 3] rfl rfl rfl rfl rfl (by decide) rfl rfl rfl 0 rfl rfl rfl (Nat.le_of_ble_eq_true rfl) dX7_roomNow_1 ⟨Nat.zero_le _, Nat.zero_le _⟩ rfl (fun H locs hP hD hS => ?_)
  refine lv_iconst (v := (1 : Int32)) hx hb dX7_roomNow_4 (by decide) ?_
  refine lv_isub hx hb dX7_roomNow_5 ?_
  refine lv_istore_n (lv' := [(1, .int (o1 - (1 : Int32))), (0, .ref (ad 0))]) hx hb dX7_roomNow_6 rfl hl (by decide) rfl (fun ls hl => ?_)
  refine lv_aload_n hx hb dX7_roomNow_7 rfl (lv_at hl 1 rfl) ?_
  refine lv_iconst (v := (0 : Int32)) hx hb dX7_roomNow_8 (by decide) ?_
  obtain ⟨o9, hc9, h⟩ := az_bnd h
  refine az_callVi (w2 := az_cM g ad V) (As := [.int (0 : Int32)]) (rest := []) ⟨hx, hb, hml, hown, hts⟩ hl.1 (kX7_leftIn l g ad V (0 : Int32) o9 hc9) (cwV 1 hts gX7_roomNow_X7_leftIn rfl rfl rfl (by decide +kernel) ⟨Nat.le_of_ble_eq_true rfl, Nat.le_of_ble_eq_true rfl⟩) rfl hK hP hD hS hA [0, 1, 2, 3] [] [0, 1, 2, 3] rfl rfl rfl rfl rfl (by decide) rfl rfl rfl 0 rfl rfl rfl (Nat.le_of_ble_eq_true rfl) dX7_roomNow_9 ⟨Nat.zero_le _, Nat.zero_le _⟩ rfl (fun H locs hP hD hS => ?_)
  refine lv_iload_n hx hb dX7_roomNow_12 rfl (lv_at hl 0 rfl) ?_
  refine lv_if_ge (tgt := 20) hx hb dX7_roomNow_13 (by decide) (fun c13 => ?_) (fun c13 => ?_)
  · replace h := az_pos c13 h
    refine lv_iload_n hx hb dX7_roomNow_20 rfl (lv_at hl 0 rfl) ?_
    refine lv_aload_n hx hb dX7_roomNow_21 rfl (lv_at hl 1 rfl) ?_
    refine va_get (D := g.1) (ci := 7) (v := .ref (ad 1)) (C := RX7) (T := TX7) (N := 5) hx hb hts inX7_roomNow_RX7 hown hK hP 0 rfl rfl 0 (Nat.le_of_ble_eq_true rfl) (hts _ (List.mem_of_getElem? (i := 1) rfl)) (fun _ h9 => h9) rfl dX7_roomNow_22 ?_
    refine lv_iconst (v := (1 : Int32)) hx hb dX7_roomNow_25 (by decide) ?_
    refine va_iald (D := g.1) (f := (V 0)) hx hb hK hP 1 0 rfl rfl (az_vin (by decide +kernel)) dX7_roomNow_26 ?_
    refine lv_imul hx hb dX7_roomNow_27 ?_
    refine lv_iadd hx hb dX7_roomNow_28 ?_
    have hP : va_P g.1 az_cl (az_cM g ad V) _ := hP
    have hD : va_D A (az_cM g ad V) := hD
    rw [← Option.some.inj h]
    exact az_iret hx hb hr hlocks hK hP hD hS dX7_roomNow_29
  · replace h := az_neg c13 h
    refine lv_iconst (v := (0 : Int32)) hx hb dX7_roomNow_16 (by decide) ?_
    refine lv_goto (tgt := 28) hx hb dX7_roomNow_17 (by decide) ?_
    refine lv_iadd hx hb dX7_roomNow_28 ?_
    have hP : va_P g.1 az_cl (az_cM g ad V) _ := hP
    have hD : va_D A (az_cM g ad V) := hD
    rw [← Option.some.inj h]
    exact az_iret hx hb hr hlocks hK hP hD hS dX7_roomNow_29

def FX7_room (V : az_St) : Option (Int32 × (Nat → Int32)) := az_lt (upd (V 2) 1 (0 : Int32)) (fun u2 => (FX7_roomNow (va_up V 2 u2)).bind (fun o6 => some (o6, u2)))
theorem inX7_room_RX7 : ∀ w ∈ wsX70, w ∈ wsX7_room := az_inr [20, 21, 22, 23, 24] (by decide +kernel)
set_option maxHeartbeats 4000000 in
set_option maxRecDepth 100000 in
theorem kX7_room (l : Launch) (g : az_G) (ad : Nat → Nat) (V : az_St) (o : Int32 × (Nat → Int32)) (h : FX7_room V = some o) : az_I l yX7_room wsX7_room ({ frames := 3, cells := 0, slots := 0, locals := 65 } : Room) [.ref (ad 0)] g (az_cM g ad V) o.1 (az_cM g ad (va_up V 2 o.2)) := by
  refine az_body (cc := cX7_room) (maxL := 1) (ret := (some .int)) (Qc := fun A => az_QI g (az_cM g ad (va_up V 2 o.2)) o.1 A) (by decide +kernel) rfl (Nat.le_of_ble_eq_true rfl) ?_
  intro p e s m args below meth c A hx hb hr hts hown hml hlocks hA hK hP hD hS ls hl
  have hl : lv_has ls 1 [(0, .ref (ad 0))] := hl
  unfold FX7_room at h
  refine lv_aload_n hx hb dX7_room_0 rfl (lv_at hl 0 rfl) ?_
  refine lv_iconst (v := (0 : Int32)) hx hb dX7_room_1 (by decide) ?_
  refine va_put (D := g.1) (ci := 7) (v := .int (0 : Int32)) (ty := .int) (C := RX7) (T := TX7) (N := 5) hx hb hts inX7_room_RX7 tyX7 tyX7_ok nmX7 hown hK hP hD hS 0 rfl rfl 3 (Nat.le_of_ble_eq_true rfl) (hts _ (List.mem_of_getElem? (i := 1) rfl)) (fun _ h9 => h9) rfl (by decide +kernel) rfl rfl (Nat.le_of_ble_eq_true rfl) dX7_room_2 (fun H locs hP hD hS => ?_)
  obtain ⟨u2, e2⟩ : ∃ w : Nat → Int32, w = upd (V 2) 1 (0 : Int32) := ⟨_, rfl⟩
  have hP : va_P g.1 az_cl (az_cM g ad (va_up V 2 u2)) H := by rw [e2]; exact hP
  have hD : va_D A (az_cM g ad (va_up V 2 u2)) := by rw [e2]; exact hD
  replace h := az_let e2 h
  refine lv_aload_n hx hb dX7_room_5 rfl (lv_at hl 0 rfl) ?_
  obtain ⟨o6, hc6, h⟩ := az_bnd h
  refine az_callVi (w2 := az_cM g ad (va_up V 2 u2)) (As := []) (rest := []) ⟨hx, hb, hml, hown, hts⟩ hl.1 (kX7_roomNow l g ad (va_up V 2 u2) o6 hc6) (cwV 0 hts gX7_room_X7_roomNow rfl rfl rfl (by decide +kernel) ⟨Nat.le_of_ble_eq_true rfl, Nat.le_of_ble_eq_true rfl⟩) rfl hK hP hD hS hA [0, 1, 2, 3] [] [0, 1, 2, 3] rfl rfl rfl rfl rfl (by decide) rfl rfl rfl 0 rfl rfl rfl (Nat.le_of_ble_eq_true rfl) dX7_room_6 ⟨Nat.zero_le _, Nat.zero_le _⟩ rfl (fun H locs hP hD hS => ?_)
  have hP : va_P g.1 az_cl (az_cM g ad (va_up V 2 u2)) _ := hP
  have hD : va_D A (az_cM g ad (va_up V 2 u2)) := hD
  rw [← Option.some.inj h]
  exact az_iret hx hb hr hlocks hK hP hD hS dX7_room_9

def FX7_isVersion (V : az_St) (x1 : Int32) (x2 : Int32) : Option (Int32) := (FX7_isBlock V x1).bind (fun o2 => if o2 = (0 : Int32) then (some ((0 : Int32))) else ((FX7_ofBlock V x1 (0 : Int32)).bind (fun o11 => (FX7_isIn o11.toInt64 (1 : Int64) (3 : Int64)).bind (fun o19 => if o19 = (0 : Int32) then (some ((0 : Int32))) else ((FX7_ofBlock V x1 (1 : Int32)).bind (fun o28 => if o28 = x2 then (some ((1 : Int32))) else (some ((0 : Int32)))))))))
set_option maxHeartbeats 4000000 in
set_option maxRecDepth 100000 in
theorem kX7_isVersion (l : Launch) (g : az_G) (ad : Nat → Nat) (V : az_St) (x1 : Int32) (x2 : Int32) (o : Int32) (h : FX7_isVersion V x1 x2 = some o) : az_I l yX7_isVersion wsX7_isVersion ({ frames := 3, cells := 0, slots := 0, locals := 67 } : Room) [.ref (ad 0), .int x1, .int x2] g (az_cM g ad V) o (az_cM g ad V) := by
  refine az_body (cc := cX7_isVersion) (maxL := 3) (ret := (some .boolean)) (Qc := fun A => az_QI g (az_cM g ad V) o A) (by decide +kernel) rfl (Nat.le_of_ble_eq_true rfl) ?_
  intro p e s m args below meth c A hx hb hr hts hown hml hlocks hA hK hP hD hS ls hl
  have hl : lv_has ls 3 [(0, .ref (ad 0)), (1, .int x1), (2, .int x2)] := hl
  unfold FX7_isVersion at h
  refine lv_aload_n hx hb dX7_isVersion_0 rfl (lv_at hl 0 rfl) ?_
  refine lv_iload_n hx hb dX7_isVersion_1 rfl (lv_at hl 1 rfl) ?_
  obtain ⟨o2, hc2, h⟩ := az_bnd h
  refine az_callVi (w2 := az_cM g ad V) (As := [.int x1]) (rest := []) ⟨hx, hb, hml, hown, hts⟩ hl.1 (kX7_isBlock l g ad V x1 o2 hc2) (cwV 1 hts gX7_isVersion_X7_isBlock rfl rfl rfl (by decide +kernel) ⟨Nat.le_of_ble_eq_true rfl, Nat.le_of_ble_eq_true rfl⟩) rfl hK hP hD hS hA [0, 1, 2, 3] [] [0, 1, 2, 3] rfl rfl rfl rfl rfl (by decide) rfl rfl rfl 0 rfl rfl rfl (Nat.le_of_ble_eq_true rfl) dX7_isVersion_2 ⟨Nat.zero_le _, Nat.zero_le _⟩ rfl (fun H locs hP hD hS => ?_)
  refine lv_if_eq (tgt := 39) hx hb dX7_isVersion_5 (by decide) (fun c5 => ?_) (fun c5 => ?_)
  · replace h := az_pos c5 h
    refine lv_iconst (v := (0 : Int32)) hx hb dX7_isVersion_39 (by decide) ?_
    have hP : va_P g.1 az_cl (az_cM g ad V) _ := hP
    have hD : va_D A (az_cM g ad V) := hD
    rw [← Option.some.inj h]
    exact az_zret hx hb hr hlocks (az_nar (r := (0 : Int32)) (by decide +kernel)) hK hP hD hS dX7_isVersion_40
  · replace h := az_neg c5 h
    refine lv_aload_n hx hb dX7_isVersion_8 rfl (lv_at hl 0 rfl) ?_
    refine lv_iload_n hx hb dX7_isVersion_9 rfl (lv_at hl 1 rfl) ?_
    refine lv_iconst (v := (0 : Int32)) hx hb dX7_isVersion_10 (by decide) ?_
    obtain ⟨o11, hc11, h⟩ := az_bnd h
    refine az_callVi (w2 := az_cM g ad V) (As := [.int x1, .int (0 : Int32)]) (rest := []) ⟨hx, hb, hml, hown, hts⟩ hl.1 (kX7_ofBlock l g ad V x1 (0 : Int32) o11 hc11) (cwV 2 hts gX7_isVersion_X7_ofBlock rfl rfl rfl (by decide +kernel) ⟨Nat.le_of_ble_eq_true rfl, Nat.le_of_ble_eq_true rfl⟩) rfl hK hP hD hS hA [0, 1, 2, 3] [] [0, 1, 2, 3] rfl rfl rfl rfl rfl (by decide) rfl rfl rfl 0 rfl rfl rfl (Nat.le_of_ble_eq_true rfl) dX7_isVersion_11 ⟨Nat.zero_le _, Nat.zero_le _⟩ rfl (fun H locs hP hD hS => ?_)
    refine lv_i2l (v := o11.toInt64) hx hb dX7_isVersion_14 rfl ?_
    refine lv_lconst (v := (1 : Int64)) hx hb dX7_isVersion_15 (by decide) ?_
    refine lv_ldc2 (v := (3 : Int64)) hx hb hown (hts _ (List.mem_of_getElem? (i := 1) rfl)) dX7_isVersion_16 ?_
    obtain ⟨o19, hc19, h⟩ := az_bnd h
    refine az_callS0 (As := [.long o11.toInt64, .long (1 : Int64), .long (3 : Int64)]) (rest := []) ⟨hx, hb, hml, hown, hts⟩ hl.1 (kX7_isIn l g o11.toInt64 (1 : Int64) (3 : Int64) o19 hc19) (va_cwS 3 hts gX7_isVersion_X7_isIn rfl rfl rfl (by decide +kernel) ⟨Nat.le_of_ble_eq_true rfl, Nat.le_of_ble_eq_true rfl⟩) rfl hK hP hS hA (Nat.le_of_ble_eq_true rfl) dX7_isVersion_19 ⟨Nat.zero_le _, Nat.zero_le _⟩ rfl (fun H locs hP hS => ?_)
    refine lv_if_eq (tgt := 39) hx hb dX7_isVersion_22 (by decide) (fun c22 => ?_) (fun c22 => ?_)
    · replace h := az_pos c22 h
      refine lv_iconst (v := (0 : Int32)) hx hb dX7_isVersion_39 (by decide) ?_
      have hP : va_P g.1 az_cl (az_cM g ad V) _ := hP
      have hD : va_D A (az_cM g ad V) := hD
      rw [← Option.some.inj h]
      exact az_zret hx hb hr hlocks (az_nar (r := (0 : Int32)) (by decide +kernel)) hK hP hD hS dX7_isVersion_40
    · replace h := az_neg c22 h
      refine lv_aload_n hx hb dX7_isVersion_25 rfl (lv_at hl 0 rfl) ?_
      refine lv_iload_n hx hb dX7_isVersion_26 rfl (lv_at hl 1 rfl) ?_
      refine lv_iconst (v := (1 : Int32)) hx hb dX7_isVersion_27 (by decide) ?_
      obtain ⟨o28, hc28, h⟩ := az_bnd h
      refine az_callVi (w2 := az_cM g ad V) (As := [.int x1, .int (1 : Int32)]) (rest := []) ⟨hx, hb, hml, hown, hts⟩ hl.1 (kX7_ofBlock l g ad V x1 (1 : Int32) o28 hc28) (cwV 2 hts gX7_isVersion_X7_ofBlock rfl rfl rfl (by decide +kernel) ⟨Nat.le_of_ble_eq_true rfl, Nat.le_of_ble_eq_true rfl⟩) rfl hK hP hD hS hA [0, 1, 2, 3] [] [0, 1, 2, 3] rfl rfl rfl rfl rfl (by decide) rfl rfl rfl 0 rfl rfl rfl (Nat.le_of_ble_eq_true rfl) dX7_isVersion_28 ⟨Nat.zero_le _, Nat.zero_le _⟩ rfl (fun H locs hP hD hS => ?_)
      refine lv_iload_n hx hb dX7_isVersion_31 rfl (lv_at hl 2 rfl) ?_
      refine lv_icmp_ne (tgt := 39) hx hb dX7_isVersion_32 (by decide) (fun c32 => ?_) (fun c32 => ?_)
      · replace h := az_neg c32 h
        refine lv_iconst (v := (0 : Int32)) hx hb dX7_isVersion_39 (by decide) ?_
        have hP : va_P g.1 az_cl (az_cM g ad V) _ := hP
        have hD : va_D A (az_cM g ad V) := hD
        rw [← Option.some.inj h]
        exact az_zret hx hb hr hlocks (az_nar (r := (0 : Int32)) (by decide +kernel)) hK hP hD hS dX7_isVersion_40
      · replace h := az_pos c32 h
        refine lv_iconst (v := (1 : Int32)) hx hb dX7_isVersion_35 (by decide) ?_
        refine lv_goto (tgt := 40) hx hb dX7_isVersion_36 (by decide) ?_
        have hP : va_P g.1 az_cl (az_cM g ad V) _ := hP
        have hD : va_D A (az_cM g ad V) := hD
        rw [← Option.some.inj h]
        exact az_zret hx hb hr hlocks (az_nar (r := (1 : Int32)) (by decide +kernel)) hK hP hD hS dX7_isVersion_40

def FX7_versionsOf_L4 : Nat → az_St → Int32 → Int32 → Int32 → Option (Int32)
  | 0, _, _, _, _ => none
  | n + 1, V, x1, y2, y3 => if (16 : Int32) * ((V 0) (0 : Int32).toNatClampNeg) ≤ y3 then (some (y2)) else ((FX7_isVersion V y3 x1).bind (fun o21 => if o21 = (0 : Int32) then (FX7_versionsOf_L4 n V x1 (y2 + (0 : Int32)) (y3 + (1 : Int32))) else (FX7_versionsOf_L4 n V x1 (y2 + (1 : Int32)) (y3 + (1 : Int32)))))
theorem FX7_versionsOf_L4_s (n : Nat) (V : az_St) (x1 : Int32) (y2 : Int32) (y3 : Int32) : FX7_versionsOf_L4 (n + 1) V x1 y2 y3 = (if (16 : Int32) * ((V 0) (0 : Int32).toNatClampNeg) ≤ y3 then (some (y2)) else ((FX7_isVersion V y3 x1).bind (fun o21 => if o21 = (0 : Int32) then (FX7_versionsOf_L4 n V x1 (y2 + (0 : Int32)) (y3 + (1 : Int32))) else (FX7_versionsOf_L4 n V x1 (y2 + (1 : Int32)) (y3 + (1 : Int32)))))) := rfl
def FX7_versionsOf (V : az_St) (x1 : Int32) : Option (Int32) := FX7_versionsOf_L4 az_fuel V x1 (0 : Int32) (0 : Int32)
theorem inX7_versionsOf_RX7 : ∀ w ∈ wsX70, w ∈ wsX7_versionsOf := az_inr [23, 24, 25, 26, 27] (by decide +kernel)
set_option maxHeartbeats 4000000 in
set_option maxRecDepth 100000 in
theorem kX7_versionsOf (l : Launch) (g : az_G) (ad : Nat → Nat) (V : az_St) (x1 : Int32) (o : Int32) (h : FX7_versionsOf V x1 = some o) : az_I l yX7_versionsOf wsX7_versionsOf ({ frames := 4, cells := 0, slots := 0, locals := 89 } : Room) [.ref (ad 0), .int x1] g (az_cM g ad V) o (az_cM g ad V) := by
  refine az_body (cc := cX7_versionsOf) (maxL := 4) (ret := (some .int)) (Qc := fun A => az_QI g (az_cM g ad V) o A) (by decide +kernel) rfl (Nat.le_of_ble_eq_true rfl) ?_
  intro p e s m args below meth c A hx hb hr hts hown hml hlocks hA hK hP hD hS ls hl
  have hl : lv_has ls 4 [(0, .ref (ad 0)), (1, .int x1)] := hl
  unfold FX7_versionsOf at h
  have hL4 : ∀ (n : Nat) (y2 : Int32) (y3 : Int32) (H : Heap) (locs : List Loc) (ls : Array Slot), FX7_versionsOf_L4 n V x1 y2 y3 = some o → va_P g.1 az_cl (az_cM g ad V) H → va_D A (az_cM g ad V) → va_S A s.heap H locs → lv_has ls 4 [(0, .ref (ad 0)), (1, .int x1), (2, .int y2), (3, .int y3)] → W p l e ({ frames := 4, cells := 0, slots := 0, locals := 89 } : Room) s m args below meth c H locs 0 0 (MQ below (az_QI g (az_cM g ad V) o A) args s 0 0 A) (F0 m 4 ls []) := by
    intro n
    induction n with
    | zero => intro y2 y3 H locs ls h; exact az_non h
    | succ n ih =>
      intro y2 y3 H locs ls h hP hD hS hl
      rw [FX7_versionsOf_L4_s] at h
      refine lv_iload_n hx hb dX7_versionsOf_4 rfl (lv_at hl 3 rfl) ?_
      refine lv_bipush (v := (16 : Int32)) hx hb dX7_versionsOf_5 (by decide) ?_
      refine lv_aload_n hx hb dX7_versionsOf_7 rfl (lv_at hl 0 rfl) ?_
      refine va_get (D := g.1) (ci := 7) (v := .ref (ad 1)) (C := RX7) (T := TX7) (N := 5) hx hb hts inX7_versionsOf_RX7 hown hK hP 0 rfl rfl 0 (Nat.le_of_ble_eq_true rfl) (hts _ (List.mem_of_getElem? (i := 1) rfl)) (fun _ h9 => h9) rfl dX7_versionsOf_8 ?_
      refine lv_iconst (v := (0 : Int32)) hx hb dX7_versionsOf_11 (by decide) ?_
      refine va_iald (D := g.1) (f := (V 0)) hx hb hK hP 1 0 rfl rfl (az_vin (by decide +kernel)) dX7_versionsOf_12 ?_
      refine lv_imul hx hb dX7_versionsOf_13 ?_
      refine lv_icmp_ge (tgt := 40) hx hb dX7_versionsOf_14 (by decide) (fun c14 => ?_) (fun c14 => ?_)
      · replace h := az_pos c14 h
        refine lv_iload_n hx hb dX7_versionsOf_40 rfl (lv_at hl 2 rfl) ?_
        have hP : va_P g.1 az_cl (az_cM g ad V) _ := hP
        have hD : va_D A (az_cM g ad V) := hD
        rw [← Option.some.inj h]
        exact az_iret hx hb hr hlocks hK hP hD hS dX7_versionsOf_41
      · replace h := az_neg c14 h
        refine lv_iload_n hx hb dX7_versionsOf_17 rfl (lv_at hl 2 rfl) ?_
        refine lv_aload_n hx hb dX7_versionsOf_18 rfl (lv_at hl 0 rfl) ?_
        refine lv_iload_n hx hb dX7_versionsOf_19 rfl (lv_at hl 3 rfl) ?_
        refine lv_iload_n hx hb dX7_versionsOf_20 rfl (lv_at hl 1 rfl) ?_
        obtain ⟨o21, hc21, h⟩ := az_bnd h
        refine az_callVi (w2 := az_cM g ad V) (As := [.int y3, .int x1]) (rest := [.int y2]) ⟨hx, hb, hml, hown, hts⟩ hl.1 (kX7_isVersion l g ad V y3 x1 o21 hc21) (cwV 2 hts gX7_versionsOf_X7_isVersion rfl rfl rfl (by decide +kernel) ⟨Nat.le_of_ble_eq_true rfl, Nat.le_of_ble_eq_true rfl⟩) rfl hK hP hD hS hA [0, 1, 2, 3] [] [0, 1, 2, 3] rfl rfl rfl rfl rfl (by decide) rfl rfl rfl 0 rfl rfl rfl (Nat.le_of_ble_eq_true rfl) dX7_versionsOf_21 ⟨Nat.zero_le _, Nat.zero_le _⟩ rfl (fun H locs hP hD hS => ?_)
        refine lv_if_eq (tgt := 31) hx hb dX7_versionsOf_24 (by decide) (fun c24 => ?_) (fun c24 => ?_)
        · replace h := az_pos c24 h
          refine lv_iconst (v := (0 : Int32)) hx hb dX7_versionsOf_31 (by decide) ?_
          refine lv_iadd hx hb dX7_versionsOf_32 ?_
          refine lv_istore_n (lv' := [(2, .int (y2 + (0 : Int32))), (0, .ref (ad 0)), (1, .int x1), (3, .int y3)]) hx hb dX7_versionsOf_33 rfl hl (by decide) rfl (fun ls hl => ?_)
          refine lv_iinc (v := y3 + (1 : Int32)) (lv' := [(3, .int (y3 + (1 : Int32))), (2, .int (y2 + (0 : Int32))), (0, .ref (ad 0)), (1, .int x1)]) hx hb dX7_versionsOf_34 hl (k := 3) rfl (rfl) (by decide) rfl (fun ls hl => ?_)
          refine lv_goto (tgt := 4) hx hb dX7_versionsOf_37 (by decide) ?_
          have hP : va_P g.1 az_cl (az_cM g ad V) _ := hP
          have hD : va_D A (az_cM g ad V) := hD
          exact ih (y2 + (0 : Int32)) (y3 + (1 : Int32)) _ _ ls h hP hD hS (lv_sub hl [2, 3, 1, 0] rfl)
        · replace h := az_neg c24 h
          refine lv_iconst (v := (1 : Int32)) hx hb dX7_versionsOf_27 (by decide) ?_
          refine lv_goto (tgt := 32) hx hb dX7_versionsOf_28 (by decide) ?_
          refine lv_iadd hx hb dX7_versionsOf_32 ?_
          refine lv_istore_n (lv' := [(2, .int (y2 + (1 : Int32))), (0, .ref (ad 0)), (1, .int x1), (3, .int y3)]) hx hb dX7_versionsOf_33 rfl hl (by decide) rfl (fun ls hl => ?_)
          refine lv_iinc (v := y3 + (1 : Int32)) (lv' := [(3, .int (y3 + (1 : Int32))), (2, .int (y2 + (1 : Int32))), (0, .ref (ad 0)), (1, .int x1)]) hx hb dX7_versionsOf_34 hl (k := 3) rfl (rfl) (by decide) rfl (fun ls hl => ?_)
          refine lv_goto (tgt := 4) hx hb dX7_versionsOf_37 (by decide) ?_
          have hP : va_P g.1 az_cl (az_cM g ad V) _ := hP
          have hD : va_D A (az_cM g ad V) := hD
          exact ih (y2 + (1 : Int32)) (y3 + (1 : Int32)) _ _ ls h hP hD hS (lv_sub hl [2, 3, 1, 0] rfl)
  refine lv_iconst (v := (0 : Int32)) hx hb dX7_versionsOf_0 (by decide) ?_
  refine lv_istore_n (lv' := [(2, .int (0 : Int32)), (0, .ref (ad 0)), (1, .int x1)]) hx hb dX7_versionsOf_1 rfl hl (by decide) rfl (fun ls hl => ?_)
  refine lv_iconst (v := (0 : Int32)) hx hb dX7_versionsOf_2 (by decide) ?_
  refine lv_istore_n (lv' := [(3, .int (0 : Int32)), (2, .int (0 : Int32)), (0, .ref (ad 0)), (1, .int x1)]) hx hb dX7_versionsOf_3 rfl hl (by decide) rfl (fun ls hl => ?_)
  have hP : va_P g.1 az_cl (az_cM g ad V) _ := hP
  have hD : va_D A (az_cM g ad V) := hD
  exact hL4 az_fuel (0 : Int32) (0 : Int32) _ _ ls h hP hD hS (lv_sub hl [2, 3, 1, 0] rfl)

def FX7_versions (V : az_St) (x1 : Int32) : Option (Int32 × (Nat → Int32)) := (FX7_isKey x1).bind (fun o2 => if o2 = (0 : Int32) then (az_lt (upd (V 2) 1 (1 : Int32)) (fun u13 => if u13 1 ≤ (0 : Int32) then ((FX7_versionsOf (va_up V 2 u13) x1).bind (fun o29 => some (o29, u13))) else (some ((0 : Int32), u13)))) else (az_lt (upd (V 2) 1 (0 : Int32)) (fun u13 => if u13 1 ≤ (0 : Int32) then ((FX7_versionsOf (va_up V 2 u13) x1).bind (fun o29 => some (o29, u13))) else (some ((0 : Int32), u13)))))
theorem inX7_versions_RX7 : ∀ w ∈ wsX70, w ∈ wsX7_versions := az_inr [32, 33, 34, 35, 36] (by decide +kernel)
set_option maxHeartbeats 4000000 in
set_option maxRecDepth 100000 in
theorem kX7_versions (l : Launch) (g : az_G) (ad : Nat → Nat) (V : az_St) (x1 : Int32) (o : Int32 × (Nat → Int32)) (h : FX7_versions V x1 = some o) : az_I l yX7_versions wsX7_versions ({ frames := 5, cells := 0, slots := 0, locals := 112 } : Room) [.ref (ad 0), .int x1] g (az_cM g ad V) o.1 (az_cM g ad (va_up V 2 o.2)) := by
  refine az_body (cc := cX7_versions) (maxL := 2) (ret := (some .int)) (Qc := fun A => az_QI g (az_cM g ad (va_up V 2 o.2)) o.1 A) (by decide +kernel) rfl (Nat.le_of_ble_eq_true rfl) ?_
  intro p e s m args below meth c A hx hb hr hts hown hml hlocks hA hK hP hD hS ls hl
  have hl : lv_has ls 2 [(0, .ref (ad 0)), (1, .int x1)] := hl
  unfold FX7_versions at h
  refine lv_aload_n hx hb dX7_versions_0 rfl (lv_at hl 0 rfl) ?_
  refine lv_iload_n hx hb dX7_versions_1 rfl (lv_at hl 1 rfl) ?_
  obtain ⟨o2, hc2, h⟩ := az_bnd h
  refine az_callS0 (As := [.int x1]) (rest := [.ref (ad 0)]) ⟨hx, hb, hml, hown, hts⟩ hl.1 (kX7_isKey l g x1 o2 hc2) (va_cwS 1 hts gX7_versions_X7_isKey rfl rfl rfl (by decide +kernel) ⟨Nat.le_of_ble_eq_true rfl, Nat.le_of_ble_eq_true rfl⟩) rfl hK hP hS hA (Nat.le_of_ble_eq_true rfl) dX7_versions_2 ⟨Nat.zero_le _, Nat.zero_le _⟩ rfl (fun H locs hP hS => ?_)
  refine lv_if_eq (tgt := 12) hx hb dX7_versions_5 (by decide) (fun c5 => ?_) (fun c5 => ?_)
  · replace h := az_pos c5 h
    refine lv_iconst (v := (1 : Int32)) hx hb dX7_versions_12 (by decide) ?_
    refine va_put (D := g.1) (ci := 7) (v := .int (1 : Int32)) (ty := .int) (C := RX7) (T := TX7) (N := 5) hx hb hts inX7_versions_RX7 tyX7 tyX7_ok nmX7 hown hK hP hD hS 0 rfl rfl 3 (Nat.le_of_ble_eq_true rfl) (hts _ (List.mem_of_getElem? (i := 1) rfl)) (fun _ h9 => h9) rfl (by decide +kernel) rfl rfl (Nat.le_of_ble_eq_true rfl) dX7_versions_13 (fun H locs hP hD hS => ?_)
    obtain ⟨u13, e13⟩ : ∃ w : Nat → Int32, w = upd (V 2) 1 (1 : Int32) := ⟨_, rfl⟩
    have hP : va_P g.1 az_cl (az_cM g ad (va_up V 2 u13)) H := by rw [e13]; exact hP
    have hD : va_D A (az_cM g ad (va_up V 2 u13)) := by rw [e13]; exact hD
    replace h := az_let e13 h
    refine lv_aload_n hx hb dX7_versions_16 rfl (lv_at hl 0 rfl) ?_
    refine va_get (D := g.1) (ci := 7) (v := .int (u13 1)) (C := RX7) (T := TX7) (N := 5) hx hb hts inX7_versions_RX7 hown hK hP 0 rfl rfl 3 (Nat.le_of_ble_eq_true rfl) (hts _ (List.mem_of_getElem? (i := 1) rfl)) (fun _ h9 => h9) rfl dX7_versions_17 ?_
    refine lv_if_le (tgt := 27) hx hb dX7_versions_20 (by decide) (fun c20 => ?_) (fun c20 => ?_)
    · replace h := az_pos c20 h
      refine lv_aload_n hx hb dX7_versions_27 rfl (lv_at hl 0 rfl) ?_
      refine lv_iload_n hx hb dX7_versions_28 rfl (lv_at hl 1 rfl) ?_
      obtain ⟨o29, hc29, h⟩ := az_bnd h
      refine az_callVi (w2 := az_cM g ad (va_up V 2 u13)) (As := [.int x1]) (rest := []) ⟨hx, hb, hml, hown, hts⟩ hl.1 (kX7_versionsOf l g ad (va_up V 2 u13) x1 o29 hc29) (cwV 1 hts gX7_versions_X7_versionsOf rfl rfl rfl (by decide +kernel) ⟨Nat.le_of_ble_eq_true rfl, Nat.le_of_ble_eq_true rfl⟩) rfl hK hP hD hS hA [0, 1, 2, 3] [] [0, 1, 2, 3] rfl rfl rfl rfl rfl (by decide) rfl rfl rfl 0 rfl rfl rfl (Nat.le_of_ble_eq_true rfl) dX7_versions_29 ⟨Nat.zero_le _, Nat.zero_le _⟩ rfl (fun H locs hP hD hS => ?_)
      have hP : va_P g.1 az_cl (az_cM g ad (va_up V 2 u13)) _ := hP
      have hD : va_D A (az_cM g ad (va_up V 2 u13)) := hD
      rw [← Option.some.inj h]
      exact az_iret hx hb hr hlocks hK hP hD hS dX7_versions_32
    · replace h := az_neg c20 h
      refine lv_iconst (v := (0 : Int32)) hx hb dX7_versions_23 (by decide) ?_
      refine lv_goto (tgt := 32) hx hb dX7_versions_24 (by decide) ?_
      have hP : va_P g.1 az_cl (az_cM g ad (va_up V 2 u13)) _ := hP
      have hD : va_D A (az_cM g ad (va_up V 2 u13)) := hD
      rw [← Option.some.inj h]
      exact az_iret hx hb hr hlocks hK hP hD hS dX7_versions_32
  · replace h := az_neg c5 h
    refine lv_iconst (v := (0 : Int32)) hx hb dX7_versions_8 (by decide) ?_
    refine lv_goto (tgt := 13) hx hb dX7_versions_9 (by decide) ?_
    refine va_put (D := g.1) (ci := 7) (v := .int (0 : Int32)) (ty := .int) (C := RX7) (T := TX7) (N := 5) hx hb hts inX7_versions_RX7 tyX7 tyX7_ok nmX7 hown hK hP hD hS 0 rfl rfl 3 (Nat.le_of_ble_eq_true rfl) (hts _ (List.mem_of_getElem? (i := 1) rfl)) (fun _ h9 => h9) rfl (by decide +kernel) rfl rfl (Nat.le_of_ble_eq_true rfl) dX7_versions_13 (fun H locs hP hD hS => ?_)
    obtain ⟨u13, e13⟩ : ∃ w : Nat → Int32, w = upd (V 2) 1 (0 : Int32) := ⟨_, rfl⟩
    have hP : va_P g.1 az_cl (az_cM g ad (va_up V 2 u13)) H := by rw [e13]; exact hP
    have hD : va_D A (az_cM g ad (va_up V 2 u13)) := by rw [e13]; exact hD
    replace h := az_let e13 h
    refine lv_aload_n hx hb dX7_versions_16 rfl (lv_at hl 0 rfl) ?_
    refine va_get (D := g.1) (ci := 7) (v := .int (u13 1)) (C := RX7) (T := TX7) (N := 5) hx hb hts inX7_versions_RX7 hown hK hP 0 rfl rfl 3 (Nat.le_of_ble_eq_true rfl) (hts _ (List.mem_of_getElem? (i := 1) rfl)) (fun _ h9 => h9) rfl dX7_versions_17 ?_
    refine lv_if_le (tgt := 27) hx hb dX7_versions_20 (by decide) (fun c20 => ?_) (fun c20 => ?_)
    · replace h := az_pos c20 h
      refine lv_aload_n hx hb dX7_versions_27 rfl (lv_at hl 0 rfl) ?_
      refine lv_iload_n hx hb dX7_versions_28 rfl (lv_at hl 1 rfl) ?_
      obtain ⟨o29, hc29, h⟩ := az_bnd h
      refine az_callVi (w2 := az_cM g ad (va_up V 2 u13)) (As := [.int x1]) (rest := []) ⟨hx, hb, hml, hown, hts⟩ hl.1 (kX7_versionsOf l g ad (va_up V 2 u13) x1 o29 hc29) (cwV 1 hts gX7_versions_X7_versionsOf rfl rfl rfl (by decide +kernel) ⟨Nat.le_of_ble_eq_true rfl, Nat.le_of_ble_eq_true rfl⟩) rfl hK hP hD hS hA [0, 1, 2, 3] [] [0, 1, 2, 3] rfl rfl rfl rfl rfl (by decide) rfl rfl rfl 0 rfl rfl rfl (Nat.le_of_ble_eq_true rfl) dX7_versions_29 ⟨Nat.zero_le _, Nat.zero_le _⟩ rfl (fun H locs hP hD hS => ?_)
      have hP : va_P g.1 az_cl (az_cM g ad (va_up V 2 u13)) _ := hP
      have hD : va_D A (az_cM g ad (va_up V 2 u13)) := hD
      rw [← Option.some.inj h]
      exact az_iret hx hb hr hlocks hK hP hD hS dX7_versions_32
    · replace h := az_neg c20 h
      refine lv_iconst (v := (0 : Int32)) hx hb dX7_versions_23 (by decide) ?_
      refine lv_goto (tgt := 32) hx hb dX7_versions_24 (by decide) ?_
      have hP : va_P g.1 az_cl (az_cM g ad (va_up V 2 u13)) _ := hP
      have hD : va_D A (az_cM g ad (va_up V 2 u13)) := hD
      rw [← Option.some.inj h]
      exact az_iret hx hb hr hlocks hK hP hD hS dX7_versions_32

def FX7_version_L47 : Nat → az_St → Int32 → Int32 → (Nat → Int32) → Int32 → Int32 → Option (Int32 × (Nat → Int32))
  | 0, _, _, _, _, _, _ => none
  | n + 1, V, x1, x2, wV2, y3, y4 => if (0 : Int32) < y4 then ((FX7_isVersion (va_up V 2 wV2) y3 x1).bind (fun o66 => if o66 = (0 : Int32) then (FX7_version_L47 n V x1 x2 wV2 (y3 + (1 : Int32)) (y4 - (0 : Int32))) else (FX7_version_L47 n V x1 x2 wV2 (y3 + (1 : Int32)) (y4 - (1 : Int32))))) else ((FX7_isVersion (va_up V 2 wV2) y3 x1).bind (fun o55 => if o55 = (0 : Int32) then ((FX7_isVersion (va_up V 2 wV2) y3 x1).bind (fun o66 => if o66 = (0 : Int32) then (FX7_version_L47 n V x1 x2 wV2 (y3 + (1 : Int32)) (y4 - (0 : Int32))) else (FX7_version_L47 n V x1 x2 wV2 (y3 + (1 : Int32)) (y4 - (1 : Int32))))) else (some (y3, wV2))))
theorem FX7_version_L47_s (n : Nat) (V : az_St) (x1 : Int32) (x2 : Int32) (wV2 : Nat → Int32) (y3 : Int32) (y4 : Int32) : FX7_version_L47 (n + 1) V x1 x2 wV2 y3 y4 = (if (0 : Int32) < y4 then ((FX7_isVersion (va_up V 2 wV2) y3 x1).bind (fun o66 => if o66 = (0 : Int32) then (FX7_version_L47 n V x1 x2 wV2 (y3 + (1 : Int32)) (y4 - (0 : Int32))) else (FX7_version_L47 n V x1 x2 wV2 (y3 + (1 : Int32)) (y4 - (1 : Int32))))) else ((FX7_isVersion (va_up V 2 wV2) y3 x1).bind (fun o55 => if o55 = (0 : Int32) then ((FX7_isVersion (va_up V 2 wV2) y3 x1).bind (fun o66 => if o66 = (0 : Int32) then (FX7_version_L47 n V x1 x2 wV2 (y3 + (1 : Int32)) (y4 - (0 : Int32))) else (FX7_version_L47 n V x1 x2 wV2 (y3 + (1 : Int32)) (y4 - (1 : Int32))))) else (some (y3, wV2))))) := rfl
def FX7_version (V : az_St) (x1 : Int32) (x2 : Int32) : Option (Int32 × (Nat → Int32)) := (FX7_isKey x1).bind (fun o2 => if o2 = (0 : Int32) then (az_lt (upd (V 2) 1 (1 : Int32)) (fun u30 => if u30 1 ≤ (0 : Int32) then (FX7_version_L47 az_fuel V x1 x2 u30 (0 : Int32) x2) else (some ((0 : Int32), u30)))) else ((FX7_versionsOf V x1).bind (fun o13 => (FX7_isIn x2.toInt64 (0 : Int64) ((o13 - (1 : Int32)).toInt64)).bind (fun o19 => if o19 = (0 : Int32) then (az_lt (upd (V 2) 1 (1 : Int32)) (fun u30 => if u30 1 ≤ (0 : Int32) then (FX7_version_L47 az_fuel V x1 x2 u30 (0 : Int32) x2) else (some ((0 : Int32), u30)))) else (az_lt (upd (V 2) 1 (0 : Int32)) (fun u30 => if u30 1 ≤ (0 : Int32) then (FX7_version_L47 az_fuel V x1 x2 u30 (0 : Int32) x2) else (some ((0 : Int32), u30))))))))
theorem inX7_version_RX7 : ∀ w ∈ wsX70, w ∈ wsX7_version := az_inr [32, 33, 34, 35, 36] (by decide +kernel)
set_option maxHeartbeats 4000000 in
set_option maxRecDepth 100000 in
theorem kX7_version (l : Launch) (g : az_G) (ad : Nat → Nat) (V : az_St) (x1 : Int32) (x2 : Int32) (o : Int32 × (Nat → Int32)) (h : FX7_version V x1 x2 = some o) : az_I l yX7_version wsX7_version ({ frames := 5, cells := 0, slots := 0, locals := 112 } : Room) [.ref (ad 0), .int x1, .int x2] g (az_cM g ad V) o.1 (az_cM g ad (va_up V 2 o.2)) := by
  refine az_body (cc := cX7_version) (maxL := 5) (ret := (some .int)) (Qc := fun A => az_QI g (az_cM g ad (va_up V 2 o.2)) o.1 A) (by decide +kernel) rfl (Nat.le_of_ble_eq_true rfl) ?_
  intro p e s m args below meth c A hx hb hr hts hown hml hlocks hA hK hP hD hS ls hl
  have hl : lv_has ls 5 [(0, .ref (ad 0)), (1, .int x1), (2, .int x2)] := hl
  unfold FX7_version at h
  have hL47 : ∀ (n : Nat) (wV2 : Nat → Int32) (y3 : Int32) (y4 : Int32) (H : Heap) (locs : List Loc) (ls : Array Slot), FX7_version_L47 n V x1 x2 wV2 y3 y4 = some o → va_P g.1 az_cl (az_cM g ad (va_up V 2 wV2)) H → va_D A (az_cM g ad (va_up V 2 wV2)) → va_S A s.heap H locs → lv_has ls 5 [(0, .ref (ad 0)), (1, .int x1), (3, .int y3), (4, .int y4)] → W p l e ({ frames := 5, cells := 0, slots := 0, locals := 112 } : Room) s m args below meth c H locs 0 0 (MQ below (az_QI g (az_cM g ad (va_up V 2 o.2)) o.1 A) args s 0 0 A) (F0 m 47 ls []) := by
    intro n
    induction n with
    | zero => intro wV2 y3 y4 H locs ls h; exact az_non h
    | succ n ih =>
      intro wV2 y3 y4 H locs ls h hP hD hS hl
      rw [FX7_version_L47_s] at h
      refine lv_iload hx hb dX7_version_47 (lv_at hl 3 rfl) ?_
      refine lv_if_gt (tgt := 61) hx hb dX7_version_49 (by decide) (fun c49 => ?_) (fun c49 => ?_)
      · replace h := az_pos c49 h
        refine lv_iload hx hb dX7_version_61 (lv_at hl 3 rfl) ?_
        refine lv_aload_n hx hb dX7_version_63 rfl (lv_at hl 0 rfl) ?_
        refine lv_iload_n hx hb dX7_version_64 rfl (lv_at hl 2 rfl) ?_
        refine lv_iload_n hx hb dX7_version_65 rfl (lv_at hl 1 rfl) ?_
        obtain ⟨o66, hc66, h⟩ := az_bnd h
        refine az_callVi (w2 := az_cM g ad (va_up V 2 wV2)) (As := [.int y3, .int x1]) (rest := [.int y4]) ⟨hx, hb, hml, hown, hts⟩ hl.1 (kX7_isVersion l g ad (va_up V 2 wV2) y3 x1 o66 hc66) (cwV 2 hts gX7_version_X7_isVersion rfl rfl rfl (by decide +kernel) ⟨Nat.le_of_ble_eq_true rfl, Nat.le_of_ble_eq_true rfl⟩) rfl hK hP hD hS hA [0, 1, 2, 3] [] [0, 1, 2, 3] rfl rfl rfl rfl rfl (by decide) rfl rfl rfl 0 rfl rfl rfl (Nat.le_of_ble_eq_true rfl) dX7_version_66 ⟨Nat.zero_le _, Nat.zero_le _⟩ rfl (fun H locs hP hD hS => ?_)
        refine lv_if_eq (tgt := 76) hx hb dX7_version_69 (by decide) (fun c69 => ?_) (fun c69 => ?_)
        · replace h := az_pos c69 h
          refine lv_iconst (v := (0 : Int32)) hx hb dX7_version_76 (by decide) ?_
          refine lv_isub hx hb dX7_version_77 ?_
          refine lv_istore (lv' := [(4, .int (y4 - (0 : Int32))), (0, .ref (ad 0)), (1, .int x1), (3, .int y3)]) hx hb dX7_version_78 hl (by decide) rfl (fun ls hl => ?_)
          refine lv_iinc (v := y3 + (1 : Int32)) (lv' := [(3, .int (y3 + (1 : Int32))), (4, .int (y4 - (0 : Int32))), (0, .ref (ad 0)), (1, .int x1)]) hx hb dX7_version_80 hl (k := 3) rfl (rfl) (by decide) rfl (fun ls hl => ?_)
          refine lv_goto (tgt := 47) hx hb dX7_version_83 (by decide) ?_
          have hP : va_P g.1 az_cl (az_cM g ad (va_up V 2 wV2)) _ := hP
          have hD : va_D A (az_cM g ad (va_up V 2 wV2)) := hD
          exact ih wV2 (y3 + (1 : Int32)) (y4 - (0 : Int32)) _ _ ls h hP hD hS (lv_sub hl [2, 3, 0, 1] rfl)
        · replace h := az_neg c69 h
          refine lv_iconst (v := (1 : Int32)) hx hb dX7_version_72 (by decide) ?_
          refine lv_goto (tgt := 77) hx hb dX7_version_73 (by decide) ?_
          refine lv_isub hx hb dX7_version_77 ?_
          refine lv_istore (lv' := [(4, .int (y4 - (1 : Int32))), (0, .ref (ad 0)), (1, .int x1), (3, .int y3)]) hx hb dX7_version_78 hl (by decide) rfl (fun ls hl => ?_)
          refine lv_iinc (v := y3 + (1 : Int32)) (lv' := [(3, .int (y3 + (1 : Int32))), (4, .int (y4 - (1 : Int32))), (0, .ref (ad 0)), (1, .int x1)]) hx hb dX7_version_80 hl (k := 3) rfl (rfl) (by decide) rfl (fun ls hl => ?_)
          refine lv_goto (tgt := 47) hx hb dX7_version_83 (by decide) ?_
          have hP : va_P g.1 az_cl (az_cM g ad (va_up V 2 wV2)) _ := hP
          have hD : va_D A (az_cM g ad (va_up V 2 wV2)) := hD
          exact ih wV2 (y3 + (1 : Int32)) (y4 - (1 : Int32)) _ _ ls h hP hD hS (lv_sub hl [2, 3, 0, 1] rfl)
      · replace h := az_neg c49 h
        refine lv_aload_n hx hb dX7_version_52 rfl (lv_at hl 0 rfl) ?_
        refine lv_iload_n hx hb dX7_version_53 rfl (lv_at hl 2 rfl) ?_
        refine lv_iload_n hx hb dX7_version_54 rfl (lv_at hl 1 rfl) ?_
        obtain ⟨o55, hc55, h⟩ := az_bnd h
        refine az_callVi (w2 := az_cM g ad (va_up V 2 wV2)) (As := [.int y3, .int x1]) (rest := []) ⟨hx, hb, hml, hown, hts⟩ hl.1 (kX7_isVersion l g ad (va_up V 2 wV2) y3 x1 o55 hc55) (cwV 2 hts gX7_version_X7_isVersion rfl rfl rfl (by decide +kernel) ⟨Nat.le_of_ble_eq_true rfl, Nat.le_of_ble_eq_true rfl⟩) rfl hK hP hD hS hA [0, 1, 2, 3] [] [0, 1, 2, 3] rfl rfl rfl rfl rfl (by decide) rfl rfl rfl 0 rfl rfl rfl (Nat.le_of_ble_eq_true rfl) dX7_version_55 ⟨Nat.zero_le _, Nat.zero_le _⟩ rfl (fun H locs hP hD hS => ?_)
        refine lv_if_ne (tgt := 86) hx hb dX7_version_58 (by decide) (fun c58 => ?_) (fun c58 => ?_)
        · replace h := az_neg c58 h
          refine lv_iload_n hx hb dX7_version_86 rfl (lv_at hl 2 rfl) ?_
          have hP : va_P g.1 az_cl (az_cM g ad (va_up V 2 wV2)) _ := hP
          have hD : va_D A (az_cM g ad (va_up V 2 wV2)) := hD
          rw [← Option.some.inj h]
          exact az_iret hx hb hr hlocks hK hP hD hS dX7_version_87
        · replace h := az_pos c58 h
          refine lv_iload hx hb dX7_version_61 (lv_at hl 3 rfl) ?_
          refine lv_aload_n hx hb dX7_version_63 rfl (lv_at hl 0 rfl) ?_
          refine lv_iload_n hx hb dX7_version_64 rfl (lv_at hl 2 rfl) ?_
          refine lv_iload_n hx hb dX7_version_65 rfl (lv_at hl 1 rfl) ?_
          obtain ⟨o66, hc66, h⟩ := az_bnd h
          refine az_callVi (w2 := az_cM g ad (va_up V 2 wV2)) (As := [.int y3, .int x1]) (rest := [.int y4]) ⟨hx, hb, hml, hown, hts⟩ hl.1 (kX7_isVersion l g ad (va_up V 2 wV2) y3 x1 o66 hc66) (cwV 2 hts gX7_version_X7_isVersion rfl rfl rfl (by decide +kernel) ⟨Nat.le_of_ble_eq_true rfl, Nat.le_of_ble_eq_true rfl⟩) rfl hK hP hD hS hA [0, 1, 2, 3] [] [0, 1, 2, 3] rfl rfl rfl rfl rfl (by decide) rfl rfl rfl 0 rfl rfl rfl (Nat.le_of_ble_eq_true rfl) dX7_version_66 ⟨Nat.zero_le _, Nat.zero_le _⟩ rfl (fun H locs hP hD hS => ?_)
          refine lv_if_eq (tgt := 76) hx hb dX7_version_69 (by decide) (fun c69 => ?_) (fun c69 => ?_)
          · replace h := az_pos c69 h
            refine lv_iconst (v := (0 : Int32)) hx hb dX7_version_76 (by decide) ?_
            refine lv_isub hx hb dX7_version_77 ?_
            refine lv_istore (lv' := [(4, .int (y4 - (0 : Int32))), (0, .ref (ad 0)), (1, .int x1), (3, .int y3)]) hx hb dX7_version_78 hl (by decide) rfl (fun ls hl => ?_)
            refine lv_iinc (v := y3 + (1 : Int32)) (lv' := [(3, .int (y3 + (1 : Int32))), (4, .int (y4 - (0 : Int32))), (0, .ref (ad 0)), (1, .int x1)]) hx hb dX7_version_80 hl (k := 3) rfl (rfl) (by decide) rfl (fun ls hl => ?_)
            refine lv_goto (tgt := 47) hx hb dX7_version_83 (by decide) ?_
            have hP : va_P g.1 az_cl (az_cM g ad (va_up V 2 wV2)) _ := hP
            have hD : va_D A (az_cM g ad (va_up V 2 wV2)) := hD
            exact ih wV2 (y3 + (1 : Int32)) (y4 - (0 : Int32)) _ _ ls h hP hD hS (lv_sub hl [2, 3, 0, 1] rfl)
          · replace h := az_neg c69 h
            refine lv_iconst (v := (1 : Int32)) hx hb dX7_version_72 (by decide) ?_
            refine lv_goto (tgt := 77) hx hb dX7_version_73 (by decide) ?_
            refine lv_isub hx hb dX7_version_77 ?_
            refine lv_istore (lv' := [(4, .int (y4 - (1 : Int32))), (0, .ref (ad 0)), (1, .int x1), (3, .int y3)]) hx hb dX7_version_78 hl (by decide) rfl (fun ls hl => ?_)
            refine lv_iinc (v := y3 + (1 : Int32)) (lv' := [(3, .int (y3 + (1 : Int32))), (4, .int (y4 - (1 : Int32))), (0, .ref (ad 0)), (1, .int x1)]) hx hb dX7_version_80 hl (k := 3) rfl (rfl) (by decide) rfl (fun ls hl => ?_)
            refine lv_goto (tgt := 47) hx hb dX7_version_83 (by decide) ?_
            have hP : va_P g.1 az_cl (az_cM g ad (va_up V 2 wV2)) _ := hP
            have hD : va_D A (az_cM g ad (va_up V 2 wV2)) := hD
            exact ih wV2 (y3 + (1 : Int32)) (y4 - (1 : Int32)) _ _ ls h hP hD hS (lv_sub hl [2, 3, 0, 1] rfl)
  refine lv_aload_n hx hb dX7_version_0 rfl (lv_at hl 0 rfl) ?_
  refine lv_iload_n hx hb dX7_version_1 rfl (lv_at hl 1 rfl) ?_
  obtain ⟨o2, hc2, h⟩ := az_bnd h
  refine az_callS0 (As := [.int x1]) (rest := [.ref (ad 0)]) ⟨hx, hb, hml, hown, hts⟩ hl.1 (kX7_isKey l g x1 o2 hc2) (va_cwS 1 hts gX7_version_X7_isKey rfl rfl rfl (by decide +kernel) ⟨Nat.le_of_ble_eq_true rfl, Nat.le_of_ble_eq_true rfl⟩) rfl hK hP hS hA (Nat.le_of_ble_eq_true rfl) dX7_version_2 ⟨Nat.zero_le _, Nat.zero_le _⟩ rfl (fun H locs hP hS => ?_)
  refine lv_if_eq (tgt := 29) hx hb dX7_version_5 (by decide) (fun c5 => ?_) (fun c5 => ?_)
  · replace h := az_pos c5 h
    refine lv_iconst (v := (1 : Int32)) hx hb dX7_version_29 (by decide) ?_
    refine va_put (D := g.1) (ci := 7) (v := .int (1 : Int32)) (ty := .int) (C := RX7) (T := TX7) (N := 5) hx hb hts inX7_version_RX7 tyX7 tyX7_ok nmX7 hown hK hP hD hS 0 rfl rfl 3 (Nat.le_of_ble_eq_true rfl) (hts _ (List.mem_of_getElem? (i := 1) rfl)) (fun _ h9 => h9) rfl (by decide +kernel) rfl rfl (Nat.le_of_ble_eq_true rfl) dX7_version_30 (fun H locs hP hD hS => ?_)
    obtain ⟨u30, e30⟩ : ∃ w : Nat → Int32, w = upd (V 2) 1 (1 : Int32) := ⟨_, rfl⟩
    have hP : va_P g.1 az_cl (az_cM g ad (va_up V 2 u30)) H := by rw [e30]; exact hP
    have hD : va_D A (az_cM g ad (va_up V 2 u30)) := by rw [e30]; exact hD
    replace h := az_let e30 h
    refine lv_aload_n hx hb dX7_version_33 rfl (lv_at hl 0 rfl) ?_
    refine va_get (D := g.1) (ci := 7) (v := .int (u30 1)) (C := RX7) (T := TX7) (N := 5) hx hb hts inX7_version_RX7 hown hK hP 0 rfl rfl 3 (Nat.le_of_ble_eq_true rfl) (hts _ (List.mem_of_getElem? (i := 1) rfl)) (fun _ h9 => h9) rfl dX7_version_34 ?_
    refine lv_if_le (tgt := 42) hx hb dX7_version_37 (by decide) (fun c37 => ?_) (fun c37 => ?_)
    · replace h := az_pos c37 h
      refine lv_iconst (v := (0 : Int32)) hx hb dX7_version_42 (by decide) ?_
      refine lv_istore_n (lv' := [(3, .int (0 : Int32)), (0, .ref (ad 0)), (1, .int x1), (2, .int x2)]) hx hb dX7_version_43 rfl hl (by decide) rfl (fun ls hl => ?_)
      refine lv_iload_n hx hb dX7_version_44 rfl (lv_at hl 3 rfl) ?_
      refine lv_istore (lv' := [(4, .int x2), (3, .int (0 : Int32)), (0, .ref (ad 0)), (1, .int x1), (2, .int x2)]) hx hb dX7_version_45 hl (by decide) rfl (fun ls hl => ?_)
      have hP : va_P g.1 az_cl (az_cM g ad (va_up V 2 u30)) _ := hP
      have hD : va_D A (az_cM g ad (va_up V 2 u30)) := hD
      exact hL47 az_fuel u30 (0 : Int32) x2 _ _ ls h hP hD hS (lv_sub hl [2, 3, 1, 0] rfl)
    · replace h := az_neg c37 h
      refine lv_iconst (v := (0 : Int32)) hx hb dX7_version_40 (by decide) ?_
      have hP : va_P g.1 az_cl (az_cM g ad (va_up V 2 u30)) _ := hP
      have hD : va_D A (az_cM g ad (va_up V 2 u30)) := hD
      rw [← Option.some.inj h]
      exact az_iret hx hb hr hlocks hK hP hD hS dX7_version_41
  · replace h := az_neg c5 h
    refine lv_iload_n hx hb dX7_version_8 rfl (lv_at hl 2 rfl) ?_
    refine lv_i2l (v := x2.toInt64) hx hb dX7_version_9 rfl ?_
    refine lv_lconst (v := (0 : Int64)) hx hb dX7_version_10 (by decide) ?_
    refine lv_aload_n hx hb dX7_version_11 rfl (lv_at hl 0 rfl) ?_
    refine lv_iload_n hx hb dX7_version_12 rfl (lv_at hl 1 rfl) ?_
    obtain ⟨o13, hc13, h⟩ := az_bnd h
    refine az_callVi (w2 := az_cM g ad V) (As := [.int x1]) (rest := [.long (0 : Int64), .long x2.toInt64, .ref (ad 0)]) ⟨hx, hb, hml, hown, hts⟩ hl.1 (kX7_versionsOf l g ad V x1 o13 hc13) (cwV 1 hts gX7_version_X7_versionsOf rfl rfl rfl (by decide +kernel) ⟨Nat.le_of_ble_eq_true rfl, Nat.le_of_ble_eq_true rfl⟩) rfl hK hP hD hS hA [0, 1, 2, 3] [] [0, 1, 2, 3] rfl rfl rfl rfl rfl (by decide) rfl rfl rfl 0 rfl rfl rfl (Nat.le_of_ble_eq_true rfl) dX7_version_13 ⟨Nat.zero_le _, Nat.zero_le _⟩ rfl (fun H locs hP hD hS => ?_)
    refine lv_iconst (v := (1 : Int32)) hx hb dX7_version_16 (by decide) ?_
    refine lv_isub hx hb dX7_version_17 ?_
    refine lv_i2l (v := (o13 - (1 : Int32)).toInt64) hx hb dX7_version_18 rfl ?_
    obtain ⟨o19, hc19, h⟩ := az_bnd h
    refine az_callS0 (As := [.long x2.toInt64, .long (0 : Int64), .long ((o13 - (1 : Int32)).toInt64)]) (rest := [.ref (ad 0)]) ⟨hx, hb, hml, hown, hts⟩ hl.1 (kX7_isIn l g x2.toInt64 (0 : Int64) ((o13 - (1 : Int32)).toInt64) o19 hc19) (va_cwS 3 hts gX7_version_X7_isIn rfl rfl rfl (by decide +kernel) ⟨Nat.le_of_ble_eq_true rfl, Nat.le_of_ble_eq_true rfl⟩) rfl hK hP hS hA (Nat.le_of_ble_eq_true rfl) dX7_version_19 ⟨Nat.zero_le _, Nat.zero_le _⟩ rfl (fun H locs hP hS => ?_)
    refine lv_if_eq (tgt := 29) hx hb dX7_version_22 (by decide) (fun c22 => ?_) (fun c22 => ?_)
    · replace h := az_pos c22 h
      refine lv_iconst (v := (1 : Int32)) hx hb dX7_version_29 (by decide) ?_
      refine va_put (D := g.1) (ci := 7) (v := .int (1 : Int32)) (ty := .int) (C := RX7) (T := TX7) (N := 5) hx hb hts inX7_version_RX7 tyX7 tyX7_ok nmX7 hown hK hP hD hS 0 rfl rfl 3 (Nat.le_of_ble_eq_true rfl) (hts _ (List.mem_of_getElem? (i := 1) rfl)) (fun _ h9 => h9) rfl (by decide +kernel) rfl rfl (Nat.le_of_ble_eq_true rfl) dX7_version_30 (fun H locs hP hD hS => ?_)
      obtain ⟨u30, e30⟩ : ∃ w : Nat → Int32, w = upd (V 2) 1 (1 : Int32) := ⟨_, rfl⟩
      have hP : va_P g.1 az_cl (az_cM g ad (va_up V 2 u30)) H := by rw [e30]; exact hP
      have hD : va_D A (az_cM g ad (va_up V 2 u30)) := by rw [e30]; exact hD
      replace h := az_let e30 h
      refine lv_aload_n hx hb dX7_version_33 rfl (lv_at hl 0 rfl) ?_
      refine va_get (D := g.1) (ci := 7) (v := .int (u30 1)) (C := RX7) (T := TX7) (N := 5) hx hb hts inX7_version_RX7 hown hK hP 0 rfl rfl 3 (Nat.le_of_ble_eq_true rfl) (hts _ (List.mem_of_getElem? (i := 1) rfl)) (fun _ h9 => h9) rfl dX7_version_34 ?_
      refine lv_if_le (tgt := 42) hx hb dX7_version_37 (by decide) (fun c37 => ?_) (fun c37 => ?_)
      · replace h := az_pos c37 h
        refine lv_iconst (v := (0 : Int32)) hx hb dX7_version_42 (by decide) ?_
        refine lv_istore_n (lv' := [(3, .int (0 : Int32)), (0, .ref (ad 0)), (1, .int x1), (2, .int x2)]) hx hb dX7_version_43 rfl hl (by decide) rfl (fun ls hl => ?_)
        refine lv_iload_n hx hb dX7_version_44 rfl (lv_at hl 3 rfl) ?_
        refine lv_istore (lv' := [(4, .int x2), (3, .int (0 : Int32)), (0, .ref (ad 0)), (1, .int x1), (2, .int x2)]) hx hb dX7_version_45 hl (by decide) rfl (fun ls hl => ?_)
        have hP : va_P g.1 az_cl (az_cM g ad (va_up V 2 u30)) _ := hP
        have hD : va_D A (az_cM g ad (va_up V 2 u30)) := hD
        exact hL47 az_fuel u30 (0 : Int32) x2 _ _ ls h hP hD hS (lv_sub hl [2, 3, 1, 0] rfl)
      · replace h := az_neg c37 h
        refine lv_iconst (v := (0 : Int32)) hx hb dX7_version_40 (by decide) ?_
        have hP : va_P g.1 az_cl (az_cM g ad (va_up V 2 u30)) _ := hP
        have hD : va_D A (az_cM g ad (va_up V 2 u30)) := hD
        rw [← Option.some.inj h]
        exact az_iret hx hb hr hlocks hK hP hD hS dX7_version_41
    · replace h := az_neg c22 h
      refine lv_iconst (v := (0 : Int32)) hx hb dX7_version_25 (by decide) ?_
      refine lv_goto (tgt := 30) hx hb dX7_version_26 (by decide) ?_
      refine va_put (D := g.1) (ci := 7) (v := .int (0 : Int32)) (ty := .int) (C := RX7) (T := TX7) (N := 5) hx hb hts inX7_version_RX7 tyX7 tyX7_ok nmX7 hown hK hP hD hS 0 rfl rfl 3 (Nat.le_of_ble_eq_true rfl) (hts _ (List.mem_of_getElem? (i := 1) rfl)) (fun _ h9 => h9) rfl (by decide +kernel) rfl rfl (Nat.le_of_ble_eq_true rfl) dX7_version_30 (fun H locs hP hD hS => ?_)
      obtain ⟨u30, e30⟩ : ∃ w : Nat → Int32, w = upd (V 2) 1 (0 : Int32) := ⟨_, rfl⟩
      have hP : va_P g.1 az_cl (az_cM g ad (va_up V 2 u30)) H := by rw [e30]; exact hP
      have hD : va_D A (az_cM g ad (va_up V 2 u30)) := by rw [e30]; exact hD
      replace h := az_let e30 h
      refine lv_aload_n hx hb dX7_version_33 rfl (lv_at hl 0 rfl) ?_
      refine va_get (D := g.1) (ci := 7) (v := .int (u30 1)) (C := RX7) (T := TX7) (N := 5) hx hb hts inX7_version_RX7 hown hK hP 0 rfl rfl 3 (Nat.le_of_ble_eq_true rfl) (hts _ (List.mem_of_getElem? (i := 1) rfl)) (fun _ h9 => h9) rfl dX7_version_34 ?_
      refine lv_if_le (tgt := 42) hx hb dX7_version_37 (by decide) (fun c37 => ?_) (fun c37 => ?_)
      · replace h := az_pos c37 h
        refine lv_iconst (v := (0 : Int32)) hx hb dX7_version_42 (by decide) ?_
        refine lv_istore_n (lv' := [(3, .int (0 : Int32)), (0, .ref (ad 0)), (1, .int x1), (2, .int x2)]) hx hb dX7_version_43 rfl hl (by decide) rfl (fun ls hl => ?_)
        refine lv_iload_n hx hb dX7_version_44 rfl (lv_at hl 3 rfl) ?_
        refine lv_istore (lv' := [(4, .int x2), (3, .int (0 : Int32)), (0, .ref (ad 0)), (1, .int x1), (2, .int x2)]) hx hb dX7_version_45 hl (by decide) rfl (fun ls hl => ?_)
        have hP : va_P g.1 az_cl (az_cM g ad (va_up V 2 u30)) _ := hP
        have hD : va_D A (az_cM g ad (va_up V 2 u30)) := hD
        exact hL47 az_fuel u30 (0 : Int32) x2 _ _ ls h hP hD hS (lv_sub hl [2, 3, 1, 0] rfl)
      · replace h := az_neg c37 h
        refine lv_iconst (v := (0 : Int32)) hx hb dX7_version_40 (by decide) ?_
        have hP : va_P g.1 az_cl (az_cM g ad (va_up V 2 u30)) _ := hP
        have hD : va_D A (az_cM g ad (va_up V 2 u30)) := hD
        rw [← Option.some.inj h]
        exact az_iret hx hb hr hlocks hK hP hD hS dX7_version_41

def FX7_isSnapshot (x0 : Int32) : Option (Int32) := (FX7_isIn x0.toInt64 (0 : Int64) (3 : Int64)).bind (fun o6 => if az_01 o6 = true then some (o6) else none)
set_option maxHeartbeats 4000000 in
set_option maxRecDepth 100000 in
theorem kX7_isSnapshot (l : Launch) (g : az_G)  (x0 : Int32) (o : Int32) (h : FX7_isSnapshot x0 = some o) : az_I l yX7_isSnapshot wsX7_isSnapshot ({ frames := 1, cells := 0, slots := 0, locals := 25 } : Room) [.int x0] g ([]) o ([]) := by
  refine az_body (cc := cX7_isSnapshot) (maxL := 1) (ret := (some .boolean)) (Qc := fun A => az_QI g ([]) o A) (by decide +kernel) rfl (Nat.le_of_ble_eq_true rfl) ?_
  intro p e s m args below meth c A hx hb hr hts hown hml hlocks hA hK hP hD hS ls hl
  have hl : lv_has ls 1 [(0, .int x0)] := hl
  unfold FX7_isSnapshot at h
  refine lv_iload_n hx hb dX7_isSnapshot_0 rfl (lv_at hl 0 rfl) ?_
  refine lv_i2l (v := x0.toInt64) hx hb dX7_isSnapshot_1 rfl ?_
  refine lv_lconst (v := (0 : Int64)) hx hb dX7_isSnapshot_2 (by decide) ?_
  refine lv_ldc2 (v := (3 : Int64)) hx hb hown (hts _ (List.mem_of_getElem? (i := 1) rfl)) dX7_isSnapshot_3 ?_
  obtain ⟨o6, hc6, h⟩ := az_bnd h
  refine az_callS0 (As := [.long x0.toInt64, .long (0 : Int64), .long (3 : Int64)]) (rest := []) ⟨hx, hb, hml, hown, hts⟩ hl.1 (kX7_isIn l g x0.toInt64 (0 : Int64) (3 : Int64) o6 hc6) (va_cwS 3 hts gX7_isSnapshot_X7_isIn rfl rfl rfl (by decide +kernel) ⟨Nat.le_of_ble_eq_true rfl, Nat.le_of_ble_eq_true rfl⟩) rfl hK hP hS hA (Nat.le_of_ble_eq_true rfl) dX7_isSnapshot_6 ⟨Nat.zero_le _, Nat.zero_le _⟩ rfl (fun H locs hP hS => ?_)
  obtain ⟨z9, h⟩ := az_ite h
  have hP : va_P g.1 az_cl ([]) _ := hP
  have hD : va_D A ([]) := hD
  rw [← Option.some.inj h]
  exact az_zret hx hb hr hlocks (az_nar z9) hK hP hD hS dX7_isSnapshot_9

def FX7_takeSnapshot_L62 : Nat → az_St → Int32 → (Nat → Int32) → (Nat → Int32) → (Nat → Int32) → Int32 → Int32 → Option (Int32 × (Nat → Int32) × (Nat → Int32) × (Nat → Int32))
  | 0, _, _, _, _, _, _, _ => none
  | n + 1, V, x1, wV0, wV1, wV2, y2, y3 => if (24 : Int32) ≤ y3 then (some (y2, wV0, wV1, wV2)) else (if az_in ((840 : Int32) + y3) 1036 = true then if az_in (((868 : Int32) + ((24 : Int32) * x1)) + y3) 1036 = true then az_lt (upd wV0 (((868 : Int32) + ((24 : Int32) * x1)) + y3).toNatClampNeg (wV0 ((840 : Int32) + y3).toNatClampNeg)) (fun u92 => if u92 ((840 : Int32) + y3).toNatClampNeg = (-1 : Int32) then (FX7_takeSnapshot_L62 n V x1 u92 wV1 wV2 (y2 + (0 : Int32)) (y3 + (1 : Int32))) else (FX7_takeSnapshot_L62 n V x1 u92 wV1 wV2 (y2 + (1 : Int32)) (y3 + (1 : Int32)))) else none else none)
theorem FX7_takeSnapshot_L62_s (n : Nat) (V : az_St) (x1 : Int32) (wV0 : Nat → Int32) (wV1 : Nat → Int32) (wV2 : Nat → Int32) (y2 : Int32) (y3 : Int32) : FX7_takeSnapshot_L62 (n + 1) V x1 wV0 wV1 wV2 y2 y3 = (if (24 : Int32) ≤ y3 then (some (y2, wV0, wV1, wV2)) else (if az_in ((840 : Int32) + y3) 1036 = true then if az_in (((868 : Int32) + ((24 : Int32) * x1)) + y3) 1036 = true then az_lt (upd wV0 (((868 : Int32) + ((24 : Int32) * x1)) + y3).toNatClampNeg (wV0 ((840 : Int32) + y3).toNatClampNeg)) (fun u92 => if u92 ((840 : Int32) + y3).toNatClampNeg = (-1 : Int32) then (FX7_takeSnapshot_L62 n V x1 u92 wV1 wV2 (y2 + (0 : Int32)) (y3 + (1 : Int32))) else (FX7_takeSnapshot_L62 n V x1 u92 wV1 wV2 (y2 + (1 : Int32)) (y3 + (1 : Int32)))) else none else none)) := rfl
def FX7_takeSnapshot (V : az_St) (x1 : Int32) : Option (Int32 × (Nat → Int32) × (Nat → Int32) × (Nat → Int32)) := (FX7_isSnapshot x1).bind (fun o2 => if o2 = (0 : Int32) then (az_lt (upd (V 2) 1 (1 : Int32)) (fun u31 => if u31 1 ≤ (0 : Int32) then ((FX7_keeps (va_up V 2 u31)).bind (fun o44 => if az_in ((864 : Int32) + x1) 1036 = true then az_lt (upd (V 0) ((864 : Int32) + x1).toNatClampNeg (1 : Int32)) (fun u57 => FX7_takeSnapshot_L62 az_fuel V x1 u57 o44.1 o44.2 (0 : Int32) (0 : Int32)) else none)) else (some ((0 : Int32), (V 0), (V 1), u31)))) else (if az_in ((864 : Int32) + x1) 1036 = true then if (V 0) ((864 : Int32) + x1).toNatClampNeg = (1 : Int32) then (az_lt (upd (V 2) 1 (2 : Int32)) (fun u31 => if u31 1 ≤ (0 : Int32) then ((FX7_keeps (va_up V 2 u31)).bind (fun o44 => az_lt (upd (V 0) ((864 : Int32) + x1).toNatClampNeg (1 : Int32)) (fun u57 => FX7_takeSnapshot_L62 az_fuel V x1 u57 o44.1 o44.2 (0 : Int32) (0 : Int32)))) else (some ((0 : Int32), (V 0), (V 1), u31)))) else (az_lt (upd (V 2) 1 (0 : Int32)) (fun u31 => if u31 1 ≤ (0 : Int32) then ((FX7_keeps (va_up V 2 u31)).bind (fun o44 => az_lt (upd (V 0) ((864 : Int32) + x1).toNatClampNeg (1 : Int32)) (fun u57 => FX7_takeSnapshot_L62 az_fuel V x1 u57 o44.1 o44.2 (0 : Int32) (0 : Int32)))) else (some ((0 : Int32), (V 0), (V 1), u31)))) else none))
theorem inX7_takeSnapshot_RX7 : ∀ w ∈ wsX70, w ∈ wsX7_takeSnapshot := az_inr [17, 18, 19, 20, 21] (by decide +kernel)
set_option maxHeartbeats 4000000 in
set_option maxRecDepth 100000 in
theorem kX7_takeSnapshot (l : Launch) (g : az_G) (ad : Nat → Nat) (V : az_St) (x1 : Int32) (o : Int32 × (Nat → Int32) × (Nat → Int32) × (Nat → Int32)) (h : FX7_takeSnapshot V x1 = some o) : az_I l yX7_takeSnapshot wsX7_takeSnapshot ({ frames := 2, cells := 0, slots := 0, locals := 45 } : Room) [.ref (ad 0), .int x1] g (az_cM g ad V) o.1 (az_cM g ad (va_up (va_up (va_up V 0 o.2.1) 1 o.2.2.1) 2 o.2.2.2)) := by
  refine az_body (cc := cX7_takeSnapshot) (maxL := 4) (ret := (some .int)) (Qc := fun A => az_QI g (az_cM g ad (va_up (va_up (va_up V 0 o.2.1) 1 o.2.2.1) 2 o.2.2.2)) o.1 A) (by decide +kernel) rfl (Nat.le_of_ble_eq_true rfl) ?_
  intro p e s m args below meth c A hx hb hr hts hown hml hlocks hA hK hP hD hS ls hl
  have hl : lv_has ls 4 [(0, .ref (ad 0)), (1, .int x1)] := hl
  unfold FX7_takeSnapshot at h
  have hL62 : ∀ (n : Nat) (wV0 : Nat → Int32) (wV1 : Nat → Int32) (wV2 : Nat → Int32) (y2 : Int32) (y3 : Int32) (H : Heap) (locs : List Loc) (ls : Array Slot), FX7_takeSnapshot_L62 n V x1 wV0 wV1 wV2 y2 y3 = some o → va_P g.1 az_cl (az_cM g ad (va_up (va_up (va_up V 0 wV0) 1 wV1) 2 wV2)) H → va_D A (az_cM g ad (va_up (va_up (va_up V 0 wV0) 1 wV1) 2 wV2)) → va_S A s.heap H locs → lv_has ls 4 [(0, .ref (ad 0)), (1, .int x1), (2, .int y2), (3, .int y3)] → W p l e ({ frames := 2, cells := 0, slots := 0, locals := 45 } : Room) s m args below meth c H locs 0 0 (MQ below (az_QI g (az_cM g ad (va_up (va_up (va_up V 0 o.2.1) 1 o.2.2.1) 2 o.2.2.2)) o.1 A) args s 0 0 A) (F0 m 62 ls []) := by
    intro n
    induction n with
    | zero => intro wV0 wV1 wV2 y2 y3 H locs ls h; exact az_non h
    | succ n ih =>
      intro wV0 wV1 wV2 y2 y3 H locs ls h hP hD hS hl
      rw [FX7_takeSnapshot_L62_s] at h
      refine lv_iload_n hx hb dX7_takeSnapshot_62 rfl (lv_at hl 3 rfl) ?_
      refine lv_bipush (v := (24 : Int32)) hx hb dX7_takeSnapshot_63 (by decide) ?_
      refine lv_icmp_ge (tgt := 121) hx hb dX7_takeSnapshot_65 (by decide) (fun c65 => ?_) (fun c65 => ?_)
      · replace h := az_pos c65 h
        refine lv_iload_n hx hb dX7_takeSnapshot_121 rfl (lv_at hl 2 rfl) ?_
        have hP : va_P g.1 az_cl (az_cM g ad (va_up (va_up (va_up V 0 wV0) 1 wV1) 2 wV2)) _ := hP
        have hD : va_D A (az_cM g ad (va_up (va_up (va_up V 0 wV0) 1 wV1) 2 wV2)) := hD
        rw [← Option.some.inj h]
        exact az_iret hx hb hr hlocks hK hP hD hS dX7_takeSnapshot_122
      · replace h := az_neg c65 h
        refine lv_aload_n hx hb dX7_takeSnapshot_68 rfl (lv_at hl 0 rfl) ?_
        refine va_get (D := g.1) (ci := 7) (v := .ref (ad 1)) (C := RX7) (T := TX7) (N := 5) hx hb hts inX7_takeSnapshot_RX7 hown hK hP 0 rfl rfl 0 (Nat.le_of_ble_eq_true rfl) (hts _ (List.mem_of_getElem? (i := 1) rfl)) (fun _ h9 => h9) rfl dX7_takeSnapshot_69 ?_
        refine lv_sipush (v := (868 : Int32)) hx hb dX7_takeSnapshot_72 (by decide) ?_
        refine lv_bipush (v := (24 : Int32)) hx hb dX7_takeSnapshot_75 (by decide) ?_
        refine lv_iload_n hx hb dX7_takeSnapshot_77 rfl (lv_at hl 1 rfl) ?_
        refine lv_imul hx hb dX7_takeSnapshot_78 ?_
        refine lv_iadd hx hb dX7_takeSnapshot_79 ?_
        refine lv_iload_n hx hb dX7_takeSnapshot_80 rfl (lv_at hl 3 rfl) ?_
        refine lv_iadd hx hb dX7_takeSnapshot_81 ?_
        refine lv_aload_n hx hb dX7_takeSnapshot_82 rfl (lv_at hl 0 rfl) ?_
        refine va_get (D := g.1) (ci := 7) (v := .ref (ad 1)) (C := RX7) (T := TX7) (N := 5) hx hb hts inX7_takeSnapshot_RX7 hown hK hP 0 rfl rfl 0 (Nat.le_of_ble_eq_true rfl) (hts _ (List.mem_of_getElem? (i := 1) rfl)) (fun _ h9 => h9) rfl dX7_takeSnapshot_83 ?_
        refine lv_sipush (v := (840 : Int32)) hx hb dX7_takeSnapshot_86 (by decide) ?_
        refine lv_iload_n hx hb dX7_takeSnapshot_89 rfl (lv_at hl 3 rfl) ?_
        refine lv_iadd hx hb dX7_takeSnapshot_90 ?_
        obtain ⟨i91, h⟩ := az_ite h
        refine va_iald (D := g.1) (f := wV0) hx hb hK hP 1 0 rfl rfl (az_vin i91) dX7_takeSnapshot_91 ?_
        obtain ⟨i92, h⟩ := az_ite h
        refine va_iast (D := g.1) (f := wV0) hx hb hK hP hD hS 1 0 rfl rfl (az_vin i92) dX7_takeSnapshot_92 (fun H locs hP hD hS => ?_)
        obtain ⟨u92, e92⟩ : ∃ w : Nat → Int32, w = upd wV0 (((868 : Int32) + ((24 : Int32) * x1)) + y3).toNatClampNeg (wV0 ((840 : Int32) + y3).toNatClampNeg) := ⟨_, rfl⟩
        have hP : va_P g.1 az_cl (az_cM g ad (va_up (va_up (va_up V 0 u92) 1 wV1) 2 wV2)) H := by rw [e92]; exact hP
        have hD : va_D A (az_cM g ad (va_up (va_up (va_up V 0 u92) 1 wV1) 2 wV2)) := by rw [e92]; exact hD
        replace h := az_let e92 h
        refine lv_iload_n hx hb dX7_takeSnapshot_93 rfl (lv_at hl 2 rfl) ?_
        refine lv_aload_n hx hb dX7_takeSnapshot_94 rfl (lv_at hl 0 rfl) ?_
        refine va_get (D := g.1) (ci := 7) (v := .ref (ad 1)) (C := RX7) (T := TX7) (N := 5) hx hb hts inX7_takeSnapshot_RX7 hown hK hP 0 rfl rfl 0 (Nat.le_of_ble_eq_true rfl) (hts _ (List.mem_of_getElem? (i := 1) rfl)) (fun _ h9 => h9) rfl dX7_takeSnapshot_95 ?_
        refine lv_sipush (v := (840 : Int32)) hx hb dX7_takeSnapshot_98 (by decide) ?_
        refine lv_iload_n hx hb dX7_takeSnapshot_101 rfl (lv_at hl 3 rfl) ?_
        refine lv_iadd hx hb dX7_takeSnapshot_102 ?_
        refine va_iald (D := g.1) (f := u92) hx hb hK hP 1 0 rfl rfl (az_vin i91) dX7_takeSnapshot_103 ?_
        refine lv_iconst (v := (-1 : Int32)) hx hb dX7_takeSnapshot_104 (by decide) ?_
        refine lv_icmp_ne (tgt := 112) hx hb dX7_takeSnapshot_105 (by decide) (fun c105 => ?_) (fun c105 => ?_)
        · replace h := az_neg c105 h
          refine lv_iconst (v := (1 : Int32)) hx hb dX7_takeSnapshot_112 (by decide) ?_
          refine lv_iadd hx hb dX7_takeSnapshot_113 ?_
          refine lv_istore_n (lv' := [(2, .int (y2 + (1 : Int32))), (0, .ref (ad 0)), (1, .int x1), (3, .int y3)]) hx hb dX7_takeSnapshot_114 rfl hl (by decide) rfl (fun ls hl => ?_)
          refine lv_iinc (v := y3 + (1 : Int32)) (lv' := [(3, .int (y3 + (1 : Int32))), (2, .int (y2 + (1 : Int32))), (0, .ref (ad 0)), (1, .int x1)]) hx hb dX7_takeSnapshot_115 hl (k := 3) rfl (rfl) (by decide) rfl (fun ls hl => ?_)
          refine lv_goto (tgt := 62) hx hb dX7_takeSnapshot_118 (by decide) ?_
          have hP : va_P g.1 az_cl (az_cM g ad (va_up (va_up (va_up V 0 u92) 1 wV1) 2 wV2)) _ := hP
          have hD : va_D A (az_cM g ad (va_up (va_up (va_up V 0 u92) 1 wV1) 2 wV2)) := hD
          exact ih u92 wV1 wV2 (y2 + (1 : Int32)) (y3 + (1 : Int32)) _ _ ls h hP hD hS (lv_sub hl [2, 3, 1, 0] rfl)
        · replace h := az_pos c105 h
          refine lv_iconst (v := (0 : Int32)) hx hb dX7_takeSnapshot_108 (by decide) ?_
          refine lv_goto (tgt := 113) hx hb dX7_takeSnapshot_109 (by decide) ?_
          refine lv_iadd hx hb dX7_takeSnapshot_113 ?_
          refine lv_istore_n (lv' := [(2, .int (y2 + (0 : Int32))), (0, .ref (ad 0)), (1, .int x1), (3, .int y3)]) hx hb dX7_takeSnapshot_114 rfl hl (by decide) rfl (fun ls hl => ?_)
          refine lv_iinc (v := y3 + (1 : Int32)) (lv' := [(3, .int (y3 + (1 : Int32))), (2, .int (y2 + (0 : Int32))), (0, .ref (ad 0)), (1, .int x1)]) hx hb dX7_takeSnapshot_115 hl (k := 3) rfl (rfl) (by decide) rfl (fun ls hl => ?_)
          refine lv_goto (tgt := 62) hx hb dX7_takeSnapshot_118 (by decide) ?_
          have hP : va_P g.1 az_cl (az_cM g ad (va_up (va_up (va_up V 0 u92) 1 wV1) 2 wV2)) _ := hP
          have hD : va_D A (az_cM g ad (va_up (va_up (va_up V 0 u92) 1 wV1) 2 wV2)) := hD
          exact ih u92 wV1 wV2 (y2 + (0 : Int32)) (y3 + (1 : Int32)) _ _ ls h hP hD hS (lv_sub hl [2, 3, 1, 0] rfl)
  refine lv_aload_n hx hb dX7_takeSnapshot_0 rfl (lv_at hl 0 rfl) ?_
  refine lv_iload_n hx hb dX7_takeSnapshot_1 rfl (lv_at hl 1 rfl) ?_
  obtain ⟨o2, hc2, h⟩ := az_bnd h
  refine az_callS0 (As := [.int x1]) (rest := [.ref (ad 0)]) ⟨hx, hb, hml, hown, hts⟩ hl.1 (kX7_isSnapshot l g x1 o2 hc2) (va_cwS 1 hts gX7_takeSnapshot_X7_isSnapshot rfl rfl rfl (by decide +kernel) ⟨Nat.le_of_ble_eq_true rfl, Nat.le_of_ble_eq_true rfl⟩) rfl hK hP hS hA (Nat.le_of_ble_eq_true rfl) dX7_takeSnapshot_2 ⟨Nat.zero_le _, Nat.zero_le _⟩ rfl (fun H locs hP hS => ?_)
  refine lv_if_ne (tgt := 12) hx hb dX7_takeSnapshot_5 (by decide) (fun c5 => ?_) (fun c5 => ?_)
  · replace h := az_neg c5 h
    refine lv_aload_n hx hb dX7_takeSnapshot_12 rfl (lv_at hl 0 rfl) ?_
    refine va_get (D := g.1) (ci := 7) (v := .ref (ad 1)) (C := RX7) (T := TX7) (N := 5) hx hb hts inX7_takeSnapshot_RX7 hown hK hP 0 rfl rfl 0 (Nat.le_of_ble_eq_true rfl) (hts _ (List.mem_of_getElem? (i := 1) rfl)) (fun _ h9 => h9) rfl dX7_takeSnapshot_13 ?_
    refine lv_sipush (v := (864 : Int32)) hx hb dX7_takeSnapshot_16 (by decide) ?_
    refine lv_iload_n hx hb dX7_takeSnapshot_19 rfl (lv_at hl 1 rfl) ?_
    refine lv_iadd hx hb dX7_takeSnapshot_20 ?_
    obtain ⟨i21, h⟩ := az_ite h
    refine va_iald (D := g.1) (f := (V 0)) hx hb hK hP 1 0 rfl rfl (az_vin i21) dX7_takeSnapshot_21 ?_
    refine lv_iconst (v := (1 : Int32)) hx hb dX7_takeSnapshot_22 (by decide) ?_
    refine lv_icmp_ne (tgt := 30) hx hb dX7_takeSnapshot_23 (by decide) (fun c23 => ?_) (fun c23 => ?_)
    · replace h := az_neg c23 h
      refine lv_iconst (v := (0 : Int32)) hx hb dX7_takeSnapshot_30 (by decide) ?_
      refine va_put (D := g.1) (ci := 7) (v := .int (0 : Int32)) (ty := .int) (C := RX7) (T := TX7) (N := 5) hx hb hts inX7_takeSnapshot_RX7 tyX7 tyX7_ok nmX7 hown hK hP hD hS 0 rfl rfl 3 (Nat.le_of_ble_eq_true rfl) (hts _ (List.mem_of_getElem? (i := 2) rfl)) (fun _ h9 => h9) rfl (by decide +kernel) rfl rfl (Nat.le_of_ble_eq_true rfl) dX7_takeSnapshot_31 (fun H locs hP hD hS => ?_)
      obtain ⟨u31, e31⟩ : ∃ w : Nat → Int32, w = upd (V 2) 1 (0 : Int32) := ⟨_, rfl⟩
      have hP : va_P g.1 az_cl (az_cM g ad (va_up V 2 u31)) H := by rw [e31]; exact hP
      have hD : va_D A (az_cM g ad (va_up V 2 u31)) := by rw [e31]; exact hD
      replace h := az_let e31 h
      refine lv_aload_n hx hb dX7_takeSnapshot_34 rfl (lv_at hl 0 rfl) ?_
      refine va_get (D := g.1) (ci := 7) (v := .int (u31 1)) (C := RX7) (T := TX7) (N := 5) hx hb hts inX7_takeSnapshot_RX7 hown hK hP 0 rfl rfl 3 (Nat.le_of_ble_eq_true rfl) (hts _ (List.mem_of_getElem? (i := 2) rfl)) (fun _ h9 => h9) rfl dX7_takeSnapshot_35 ?_
      refine lv_if_le (tgt := 43) hx hb dX7_takeSnapshot_38 (by decide) (fun c38 => ?_) (fun c38 => ?_)
      · replace h := az_pos c38 h
        refine lv_aload_n hx hb dX7_takeSnapshot_43 rfl (lv_at hl 0 rfl) ?_
        obtain ⟨o44, hc44, h⟩ := az_bnd h
        refine az_callVv (w2 := az_cM g ad (va_up (va_up V 1 o44.1) 2 o44.2)) (As := []) (rest := []) ⟨hx, hb, hml, hown, hts⟩ hl.1 (kX7_keeps l g ad (va_up V 2 u31) o44 hc44) (cwV 0 hts gX7_takeSnapshot_X7_keeps rfl rfl rfl (by decide +kernel) ⟨Nat.le_of_ble_eq_true rfl, Nat.le_of_ble_eq_true rfl⟩) rfl hK hP hD hS hA [0, 1, 2, 3] [] [0, 1, 2, 3] rfl rfl rfl rfl rfl (by decide) rfl rfl rfl 0 rfl rfl rfl (Nat.le_of_ble_eq_true rfl) dX7_takeSnapshot_44 ⟨Nat.zero_le _, Nat.zero_le _⟩ rfl (fun H locs hP hD hS => ?_)
        refine lv_aload_n hx hb dX7_takeSnapshot_47 rfl (lv_at hl 0 rfl) ?_
        refine va_get (D := g.1) (ci := 7) (v := .ref (ad 1)) (C := RX7) (T := TX7) (N := 5) hx hb hts inX7_takeSnapshot_RX7 hown hK hP 0 rfl rfl 0 (Nat.le_of_ble_eq_true rfl) (hts _ (List.mem_of_getElem? (i := 1) rfl)) (fun _ h9 => h9) rfl dX7_takeSnapshot_48 ?_
        refine lv_sipush (v := (864 : Int32)) hx hb dX7_takeSnapshot_51 (by decide) ?_
        refine lv_iload_n hx hb dX7_takeSnapshot_54 rfl (lv_at hl 1 rfl) ?_
        refine lv_iadd hx hb dX7_takeSnapshot_55 ?_
        refine lv_iconst (v := (1 : Int32)) hx hb dX7_takeSnapshot_56 (by decide) ?_
        refine va_iast (D := g.1) (f := (V 0)) hx hb hK hP hD hS 1 0 rfl rfl (az_vin i21) dX7_takeSnapshot_57 (fun H locs hP hD hS => ?_)
        obtain ⟨u57, e57⟩ : ∃ w : Nat → Int32, w = upd (V 0) ((864 : Int32) + x1).toNatClampNeg (1 : Int32) := ⟨_, rfl⟩
        have hP : va_P g.1 az_cl (az_cM g ad (va_up (va_up (va_up V 0 u57) 1 o44.1) 2 o44.2)) H := by rw [e57]; exact hP
        have hD : va_D A (az_cM g ad (va_up (va_up (va_up V 0 u57) 1 o44.1) 2 o44.2)) := by rw [e57]; exact hD
        replace h := az_let e57 h
        refine lv_iconst (v := (0 : Int32)) hx hb dX7_takeSnapshot_58 (by decide) ?_
        refine lv_istore_n (lv' := [(2, .int (0 : Int32)), (0, .ref (ad 0)), (1, .int x1)]) hx hb dX7_takeSnapshot_59 rfl hl (by decide) rfl (fun ls hl => ?_)
        refine lv_iconst (v := (0 : Int32)) hx hb dX7_takeSnapshot_60 (by decide) ?_
        refine lv_istore_n (lv' := [(3, .int (0 : Int32)), (2, .int (0 : Int32)), (0, .ref (ad 0)), (1, .int x1)]) hx hb dX7_takeSnapshot_61 rfl hl (by decide) rfl (fun ls hl => ?_)
        have hP : va_P g.1 az_cl (az_cM g ad (va_up (va_up (va_up V 0 u57) 1 o44.1) 2 o44.2)) _ := hP
        have hD : va_D A (az_cM g ad (va_up (va_up (va_up V 0 u57) 1 o44.1) 2 o44.2)) := hD
        exact hL62 az_fuel u57 o44.1 o44.2 (0 : Int32) (0 : Int32) _ _ ls h hP hD hS (lv_sub hl [2, 3, 1, 0] rfl)
      · replace h := az_neg c38 h
        refine lv_iconst (v := (0 : Int32)) hx hb dX7_takeSnapshot_41 (by decide) ?_
        have hP : va_P g.1 az_cl (az_cM g ad (va_up (va_up (va_up V 0 (V 0)) 1 (V 1)) 2 u31)) _ := hP
        have hD : va_D A (az_cM g ad (va_up (va_up (va_up V 0 (V 0)) 1 (V 1)) 2 u31)) := hD
        rw [← Option.some.inj h]
        exact az_iret hx hb hr hlocks hK hP hD hS dX7_takeSnapshot_42
    · replace h := az_pos c23 h
      refine lv_iconst (v := (2 : Int32)) hx hb dX7_takeSnapshot_26 (by decide) ?_
      refine lv_goto (tgt := 31) hx hb dX7_takeSnapshot_27 (by decide) ?_
      refine va_put (D := g.1) (ci := 7) (v := .int (2 : Int32)) (ty := .int) (C := RX7) (T := TX7) (N := 5) hx hb hts inX7_takeSnapshot_RX7 tyX7 tyX7_ok nmX7 hown hK hP hD hS 0 rfl rfl 3 (Nat.le_of_ble_eq_true rfl) (hts _ (List.mem_of_getElem? (i := 2) rfl)) (fun _ h9 => h9) rfl (by decide +kernel) rfl rfl (Nat.le_of_ble_eq_true rfl) dX7_takeSnapshot_31 (fun H locs hP hD hS => ?_)
      obtain ⟨u31, e31⟩ : ∃ w : Nat → Int32, w = upd (V 2) 1 (2 : Int32) := ⟨_, rfl⟩
      have hP : va_P g.1 az_cl (az_cM g ad (va_up V 2 u31)) H := by rw [e31]; exact hP
      have hD : va_D A (az_cM g ad (va_up V 2 u31)) := by rw [e31]; exact hD
      replace h := az_let e31 h
      refine lv_aload_n hx hb dX7_takeSnapshot_34 rfl (lv_at hl 0 rfl) ?_
      refine va_get (D := g.1) (ci := 7) (v := .int (u31 1)) (C := RX7) (T := TX7) (N := 5) hx hb hts inX7_takeSnapshot_RX7 hown hK hP 0 rfl rfl 3 (Nat.le_of_ble_eq_true rfl) (hts _ (List.mem_of_getElem? (i := 2) rfl)) (fun _ h9 => h9) rfl dX7_takeSnapshot_35 ?_
      refine lv_if_le (tgt := 43) hx hb dX7_takeSnapshot_38 (by decide) (fun c38 => ?_) (fun c38 => ?_)
      · replace h := az_pos c38 h
        refine lv_aload_n hx hb dX7_takeSnapshot_43 rfl (lv_at hl 0 rfl) ?_
        obtain ⟨o44, hc44, h⟩ := az_bnd h
        refine az_callVv (w2 := az_cM g ad (va_up (va_up V 1 o44.1) 2 o44.2)) (As := []) (rest := []) ⟨hx, hb, hml, hown, hts⟩ hl.1 (kX7_keeps l g ad (va_up V 2 u31) o44 hc44) (cwV 0 hts gX7_takeSnapshot_X7_keeps rfl rfl rfl (by decide +kernel) ⟨Nat.le_of_ble_eq_true rfl, Nat.le_of_ble_eq_true rfl⟩) rfl hK hP hD hS hA [0, 1, 2, 3] [] [0, 1, 2, 3] rfl rfl rfl rfl rfl (by decide) rfl rfl rfl 0 rfl rfl rfl (Nat.le_of_ble_eq_true rfl) dX7_takeSnapshot_44 ⟨Nat.zero_le _, Nat.zero_le _⟩ rfl (fun H locs hP hD hS => ?_)
        refine lv_aload_n hx hb dX7_takeSnapshot_47 rfl (lv_at hl 0 rfl) ?_
        refine va_get (D := g.1) (ci := 7) (v := .ref (ad 1)) (C := RX7) (T := TX7) (N := 5) hx hb hts inX7_takeSnapshot_RX7 hown hK hP 0 rfl rfl 0 (Nat.le_of_ble_eq_true rfl) (hts _ (List.mem_of_getElem? (i := 1) rfl)) (fun _ h9 => h9) rfl dX7_takeSnapshot_48 ?_
        refine lv_sipush (v := (864 : Int32)) hx hb dX7_takeSnapshot_51 (by decide) ?_
        refine lv_iload_n hx hb dX7_takeSnapshot_54 rfl (lv_at hl 1 rfl) ?_
        refine lv_iadd hx hb dX7_takeSnapshot_55 ?_
        refine lv_iconst (v := (1 : Int32)) hx hb dX7_takeSnapshot_56 (by decide) ?_
        refine va_iast (D := g.1) (f := (V 0)) hx hb hK hP hD hS 1 0 rfl rfl (az_vin i21) dX7_takeSnapshot_57 (fun H locs hP hD hS => ?_)
        obtain ⟨u57, e57⟩ : ∃ w : Nat → Int32, w = upd (V 0) ((864 : Int32) + x1).toNatClampNeg (1 : Int32) := ⟨_, rfl⟩
        have hP : va_P g.1 az_cl (az_cM g ad (va_up (va_up (va_up V 0 u57) 1 o44.1) 2 o44.2)) H := by rw [e57]; exact hP
        have hD : va_D A (az_cM g ad (va_up (va_up (va_up V 0 u57) 1 o44.1) 2 o44.2)) := by rw [e57]; exact hD
        replace h := az_let e57 h
        refine lv_iconst (v := (0 : Int32)) hx hb dX7_takeSnapshot_58 (by decide) ?_
        refine lv_istore_n (lv' := [(2, .int (0 : Int32)), (0, .ref (ad 0)), (1, .int x1)]) hx hb dX7_takeSnapshot_59 rfl hl (by decide) rfl (fun ls hl => ?_)
        refine lv_iconst (v := (0 : Int32)) hx hb dX7_takeSnapshot_60 (by decide) ?_
        refine lv_istore_n (lv' := [(3, .int (0 : Int32)), (2, .int (0 : Int32)), (0, .ref (ad 0)), (1, .int x1)]) hx hb dX7_takeSnapshot_61 rfl hl (by decide) rfl (fun ls hl => ?_)
        have hP : va_P g.1 az_cl (az_cM g ad (va_up (va_up (va_up V 0 u57) 1 o44.1) 2 o44.2)) _ := hP
        have hD : va_D A (az_cM g ad (va_up (va_up (va_up V 0 u57) 1 o44.1) 2 o44.2)) := hD
        exact hL62 az_fuel u57 o44.1 o44.2 (0 : Int32) (0 : Int32) _ _ ls h hP hD hS (lv_sub hl [2, 3, 1, 0] rfl)
      · replace h := az_neg c38 h
        refine lv_iconst (v := (0 : Int32)) hx hb dX7_takeSnapshot_41 (by decide) ?_
        have hP : va_P g.1 az_cl (az_cM g ad (va_up (va_up (va_up V 0 (V 0)) 1 (V 1)) 2 u31)) _ := hP
        have hD : va_D A (az_cM g ad (va_up (va_up (va_up V 0 (V 0)) 1 (V 1)) 2 u31)) := hD
        rw [← Option.some.inj h]
        exact az_iret hx hb hr hlocks hK hP hD hS dX7_takeSnapshot_42
  · replace h := az_pos c5 h
    refine lv_iconst (v := (1 : Int32)) hx hb dX7_takeSnapshot_8 (by decide) ?_
    refine lv_goto (tgt := 31) hx hb dX7_takeSnapshot_9 (by decide) ?_
    refine va_put (D := g.1) (ci := 7) (v := .int (1 : Int32)) (ty := .int) (C := RX7) (T := TX7) (N := 5) hx hb hts inX7_takeSnapshot_RX7 tyX7 tyX7_ok nmX7 hown hK hP hD hS 0 rfl rfl 3 (Nat.le_of_ble_eq_true rfl) (hts _ (List.mem_of_getElem? (i := 2) rfl)) (fun _ h9 => h9) rfl (by decide +kernel) rfl rfl (Nat.le_of_ble_eq_true rfl) dX7_takeSnapshot_31 (fun H locs hP hD hS => ?_)
    obtain ⟨u31, e31⟩ : ∃ w : Nat → Int32, w = upd (V 2) 1 (1 : Int32) := ⟨_, rfl⟩
    have hP : va_P g.1 az_cl (az_cM g ad (va_up V 2 u31)) H := by rw [e31]; exact hP
    have hD : va_D A (az_cM g ad (va_up V 2 u31)) := by rw [e31]; exact hD
    replace h := az_let e31 h
    refine lv_aload_n hx hb dX7_takeSnapshot_34 rfl (lv_at hl 0 rfl) ?_
    refine va_get (D := g.1) (ci := 7) (v := .int (u31 1)) (C := RX7) (T := TX7) (N := 5) hx hb hts inX7_takeSnapshot_RX7 hown hK hP 0 rfl rfl 3 (Nat.le_of_ble_eq_true rfl) (hts _ (List.mem_of_getElem? (i := 2) rfl)) (fun _ h9 => h9) rfl dX7_takeSnapshot_35 ?_
    refine lv_if_le (tgt := 43) hx hb dX7_takeSnapshot_38 (by decide) (fun c38 => ?_) (fun c38 => ?_)
    · replace h := az_pos c38 h
      refine lv_aload_n hx hb dX7_takeSnapshot_43 rfl (lv_at hl 0 rfl) ?_
      obtain ⟨o44, hc44, h⟩ := az_bnd h
      refine az_callVv (w2 := az_cM g ad (va_up (va_up V 1 o44.1) 2 o44.2)) (As := []) (rest := []) ⟨hx, hb, hml, hown, hts⟩ hl.1 (kX7_keeps l g ad (va_up V 2 u31) o44 hc44) (cwV 0 hts gX7_takeSnapshot_X7_keeps rfl rfl rfl (by decide +kernel) ⟨Nat.le_of_ble_eq_true rfl, Nat.le_of_ble_eq_true rfl⟩) rfl hK hP hD hS hA [0, 1, 2, 3] [] [0, 1, 2, 3] rfl rfl rfl rfl rfl (by decide) rfl rfl rfl 0 rfl rfl rfl (Nat.le_of_ble_eq_true rfl) dX7_takeSnapshot_44 ⟨Nat.zero_le _, Nat.zero_le _⟩ rfl (fun H locs hP hD hS => ?_)
      refine lv_aload_n hx hb dX7_takeSnapshot_47 rfl (lv_at hl 0 rfl) ?_
      refine va_get (D := g.1) (ci := 7) (v := .ref (ad 1)) (C := RX7) (T := TX7) (N := 5) hx hb hts inX7_takeSnapshot_RX7 hown hK hP 0 rfl rfl 0 (Nat.le_of_ble_eq_true rfl) (hts _ (List.mem_of_getElem? (i := 1) rfl)) (fun _ h9 => h9) rfl dX7_takeSnapshot_48 ?_
      refine lv_sipush (v := (864 : Int32)) hx hb dX7_takeSnapshot_51 (by decide) ?_
      refine lv_iload_n hx hb dX7_takeSnapshot_54 rfl (lv_at hl 1 rfl) ?_
      refine lv_iadd hx hb dX7_takeSnapshot_55 ?_
      refine lv_iconst (v := (1 : Int32)) hx hb dX7_takeSnapshot_56 (by decide) ?_
      obtain ⟨i57, h⟩ := az_ite h
      refine va_iast (D := g.1) (f := (V 0)) hx hb hK hP hD hS 1 0 rfl rfl (az_vin i57) dX7_takeSnapshot_57 (fun H locs hP hD hS => ?_)
      obtain ⟨u57, e57⟩ : ∃ w : Nat → Int32, w = upd (V 0) ((864 : Int32) + x1).toNatClampNeg (1 : Int32) := ⟨_, rfl⟩
      have hP : va_P g.1 az_cl (az_cM g ad (va_up (va_up (va_up V 0 u57) 1 o44.1) 2 o44.2)) H := by rw [e57]; exact hP
      have hD : va_D A (az_cM g ad (va_up (va_up (va_up V 0 u57) 1 o44.1) 2 o44.2)) := by rw [e57]; exact hD
      replace h := az_let e57 h
      refine lv_iconst (v := (0 : Int32)) hx hb dX7_takeSnapshot_58 (by decide) ?_
      refine lv_istore_n (lv' := [(2, .int (0 : Int32)), (0, .ref (ad 0)), (1, .int x1)]) hx hb dX7_takeSnapshot_59 rfl hl (by decide) rfl (fun ls hl => ?_)
      refine lv_iconst (v := (0 : Int32)) hx hb dX7_takeSnapshot_60 (by decide) ?_
      refine lv_istore_n (lv' := [(3, .int (0 : Int32)), (2, .int (0 : Int32)), (0, .ref (ad 0)), (1, .int x1)]) hx hb dX7_takeSnapshot_61 rfl hl (by decide) rfl (fun ls hl => ?_)
      have hP : va_P g.1 az_cl (az_cM g ad (va_up (va_up (va_up V 0 u57) 1 o44.1) 2 o44.2)) _ := hP
      have hD : va_D A (az_cM g ad (va_up (va_up (va_up V 0 u57) 1 o44.1) 2 o44.2)) := hD
      exact hL62 az_fuel u57 o44.1 o44.2 (0 : Int32) (0 : Int32) _ _ ls h hP hD hS (lv_sub hl [2, 3, 1, 0] rfl)
    · replace h := az_neg c38 h
      refine lv_iconst (v := (0 : Int32)) hx hb dX7_takeSnapshot_41 (by decide) ?_
      have hP : va_P g.1 az_cl (az_cM g ad (va_up (va_up (va_up V 0 (V 0)) 1 (V 1)) 2 u31)) _ := hP
      have hD : va_D A (az_cM g ad (va_up (va_up (va_up V 0 (V 0)) 1 (V 1)) 2 u31)) := hD
      rw [← Option.some.inj h]
      exact az_iret hx hb hr hlocks hK hP hD hS dX7_takeSnapshot_42

def FX7_lacks (V : az_St) (x1 : Int32) : Option (Int32 × (Nat → Int32)) := (FX7_isSnapshot x1).bind (fun o2 => if o2 = (0 : Int32) then (az_lt (upd (V 2) 1 (1 : Int32)) (fun u30 => if u30 1 ≤ (0 : Int32) then (some ((0 : Int32), u30)) else (some ((1 : Int32), u30)))) else (if az_in ((864 : Int32) + x1) 1036 = true then if (V 0) ((864 : Int32) + x1).toNatClampNeg = (0 : Int32) then (az_lt (upd (V 2) 1 (2 : Int32)) (fun u30 => if u30 1 ≤ (0 : Int32) then (some ((0 : Int32), u30)) else (some ((1 : Int32), u30)))) else (az_lt (upd (V 2) 1 (0 : Int32)) (fun u30 => if u30 1 ≤ (0 : Int32) then (some ((0 : Int32), u30)) else (some ((1 : Int32), u30)))) else none))
theorem inX7_lacks_RX7 : ∀ w ∈ wsX70, w ∈ wsX7_lacks := az_inr [11, 12, 13, 14, 15] (by decide +kernel)
set_option maxHeartbeats 4000000 in
set_option maxRecDepth 100000 in
theorem kX7_lacks (l : Launch) (g : az_G) (ad : Nat → Nat) (V : az_St) (x1 : Int32) (o : Int32 × (Nat → Int32)) (h : FX7_lacks V x1 = some o) : az_I l yX7_lacks wsX7_lacks ({ frames := 2, cells := 0, slots := 0, locals := 45 } : Room) [.ref (ad 0), .int x1] g (az_cM g ad V) o.1 (az_cM g ad (va_up V 2 o.2)) := by
  refine az_body (cc := cX7_lacks) (maxL := 2) (ret := (some .boolean)) (Qc := fun A => az_QI g (az_cM g ad (va_up V 2 o.2)) o.1 A) (by decide +kernel) rfl (Nat.le_of_ble_eq_true rfl) ?_
  intro p e s m args below meth c A hx hb hr hts hown hml hlocks hA hK hP hD hS ls hl
  have hl : lv_has ls 2 [(0, .ref (ad 0)), (1, .int x1)] := hl
  unfold FX7_lacks at h
  refine lv_aload_n hx hb dX7_lacks_0 rfl (lv_at hl 0 rfl) ?_
  refine lv_iload_n hx hb dX7_lacks_1 rfl (lv_at hl 1 rfl) ?_
  obtain ⟨o2, hc2, h⟩ := az_bnd h
  refine az_callS0 (As := [.int x1]) (rest := [.ref (ad 0)]) ⟨hx, hb, hml, hown, hts⟩ hl.1 (kX7_isSnapshot l g x1 o2 hc2) (va_cwS 1 hts gX7_lacks_X7_isSnapshot rfl rfl rfl (by decide +kernel) ⟨Nat.le_of_ble_eq_true rfl, Nat.le_of_ble_eq_true rfl⟩) rfl hK hP hS hA (Nat.le_of_ble_eq_true rfl) dX7_lacks_2 ⟨Nat.zero_le _, Nat.zero_le _⟩ rfl (fun H locs hP hS => ?_)
  refine lv_if_ne (tgt := 12) hx hb dX7_lacks_5 (by decide) (fun c5 => ?_) (fun c5 => ?_)
  · replace h := az_neg c5 h
    refine lv_aload_n hx hb dX7_lacks_12 rfl (lv_at hl 0 rfl) ?_
    refine va_get (D := g.1) (ci := 7) (v := .ref (ad 1)) (C := RX7) (T := TX7) (N := 5) hx hb hts inX7_lacks_RX7 hown hK hP 0 rfl rfl 0 (Nat.le_of_ble_eq_true rfl) (hts _ (List.mem_of_getElem? (i := 1) rfl)) (fun _ h9 => h9) rfl dX7_lacks_13 ?_
    refine lv_sipush (v := (864 : Int32)) hx hb dX7_lacks_16 (by decide) ?_
    refine lv_iload_n hx hb dX7_lacks_19 rfl (lv_at hl 1 rfl) ?_
    refine lv_iadd hx hb dX7_lacks_20 ?_
    obtain ⟨i21, h⟩ := az_ite h
    refine va_iald (D := g.1) (f := (V 0)) hx hb hK hP 1 0 rfl rfl (az_vin i21) dX7_lacks_21 ?_
    refine lv_if_ne (tgt := 29) hx hb dX7_lacks_22 (by decide) (fun c22 => ?_) (fun c22 => ?_)
    · replace h := az_neg c22 h
      refine lv_iconst (v := (0 : Int32)) hx hb dX7_lacks_29 (by decide) ?_
      refine va_put (D := g.1) (ci := 7) (v := .int (0 : Int32)) (ty := .int) (C := RX7) (T := TX7) (N := 5) hx hb hts inX7_lacks_RX7 tyX7 tyX7_ok nmX7 hown hK hP hD hS 0 rfl rfl 3 (Nat.le_of_ble_eq_true rfl) (hts _ (List.mem_of_getElem? (i := 2) rfl)) (fun _ h9 => h9) rfl (by decide +kernel) rfl rfl (Nat.le_of_ble_eq_true rfl) dX7_lacks_30 (fun H locs hP hD hS => ?_)
      obtain ⟨u30, e30⟩ : ∃ w : Nat → Int32, w = upd (V 2) 1 (0 : Int32) := ⟨_, rfl⟩
      have hP : va_P g.1 az_cl (az_cM g ad (va_up V 2 u30)) H := by rw [e30]; exact hP
      have hD : va_D A (az_cM g ad (va_up V 2 u30)) := by rw [e30]; exact hD
      replace h := az_let e30 h
      refine lv_aload_n hx hb dX7_lacks_33 rfl (lv_at hl 0 rfl) ?_
      refine va_get (D := g.1) (ci := 7) (v := .int (u30 1)) (C := RX7) (T := TX7) (N := 5) hx hb hts inX7_lacks_RX7 hown hK hP 0 rfl rfl 3 (Nat.le_of_ble_eq_true rfl) (hts _ (List.mem_of_getElem? (i := 2) rfl)) (fun _ h9 => h9) rfl dX7_lacks_34 ?_
      refine lv_if_le (tgt := 44) hx hb dX7_lacks_37 (by decide) (fun c37 => ?_) (fun c37 => ?_)
      · replace h := az_pos c37 h
        refine lv_iconst (v := (0 : Int32)) hx hb dX7_lacks_44 (by decide) ?_
        have hP : va_P g.1 az_cl (az_cM g ad (va_up V 2 u30)) _ := hP
        have hD : va_D A (az_cM g ad (va_up V 2 u30)) := hD
        rw [← Option.some.inj h]
        exact az_zret hx hb hr hlocks (az_nar (r := (0 : Int32)) (by decide +kernel)) hK hP hD hS dX7_lacks_45
      · replace h := az_neg c37 h
        refine lv_iconst (v := (1 : Int32)) hx hb dX7_lacks_40 (by decide) ?_
        refine lv_goto (tgt := 45) hx hb dX7_lacks_41 (by decide) ?_
        have hP : va_P g.1 az_cl (az_cM g ad (va_up V 2 u30)) _ := hP
        have hD : va_D A (az_cM g ad (va_up V 2 u30)) := hD
        rw [← Option.some.inj h]
        exact az_zret hx hb hr hlocks (az_nar (r := (1 : Int32)) (by decide +kernel)) hK hP hD hS dX7_lacks_45
    · replace h := az_pos c22 h
      refine lv_iconst (v := (2 : Int32)) hx hb dX7_lacks_25 (by decide) ?_
      refine lv_goto (tgt := 30) hx hb dX7_lacks_26 (by decide) ?_
      refine va_put (D := g.1) (ci := 7) (v := .int (2 : Int32)) (ty := .int) (C := RX7) (T := TX7) (N := 5) hx hb hts inX7_lacks_RX7 tyX7 tyX7_ok nmX7 hown hK hP hD hS 0 rfl rfl 3 (Nat.le_of_ble_eq_true rfl) (hts _ (List.mem_of_getElem? (i := 2) rfl)) (fun _ h9 => h9) rfl (by decide +kernel) rfl rfl (Nat.le_of_ble_eq_true rfl) dX7_lacks_30 (fun H locs hP hD hS => ?_)
      obtain ⟨u30, e30⟩ : ∃ w : Nat → Int32, w = upd (V 2) 1 (2 : Int32) := ⟨_, rfl⟩
      have hP : va_P g.1 az_cl (az_cM g ad (va_up V 2 u30)) H := by rw [e30]; exact hP
      have hD : va_D A (az_cM g ad (va_up V 2 u30)) := by rw [e30]; exact hD
      replace h := az_let e30 h
      refine lv_aload_n hx hb dX7_lacks_33 rfl (lv_at hl 0 rfl) ?_
      refine va_get (D := g.1) (ci := 7) (v := .int (u30 1)) (C := RX7) (T := TX7) (N := 5) hx hb hts inX7_lacks_RX7 hown hK hP 0 rfl rfl 3 (Nat.le_of_ble_eq_true rfl) (hts _ (List.mem_of_getElem? (i := 2) rfl)) (fun _ h9 => h9) rfl dX7_lacks_34 ?_
      refine lv_if_le (tgt := 44) hx hb dX7_lacks_37 (by decide) (fun c37 => ?_) (fun c37 => ?_)
      · replace h := az_pos c37 h
        refine lv_iconst (v := (0 : Int32)) hx hb dX7_lacks_44 (by decide) ?_
        have hP : va_P g.1 az_cl (az_cM g ad (va_up V 2 u30)) _ := hP
        have hD : va_D A (az_cM g ad (va_up V 2 u30)) := hD
        rw [← Option.some.inj h]
        exact az_zret hx hb hr hlocks (az_nar (r := (0 : Int32)) (by decide +kernel)) hK hP hD hS dX7_lacks_45
      · replace h := az_neg c37 h
        refine lv_iconst (v := (1 : Int32)) hx hb dX7_lacks_40 (by decide) ?_
        refine lv_goto (tgt := 45) hx hb dX7_lacks_41 (by decide) ?_
        have hP : va_P g.1 az_cl (az_cM g ad (va_up V 2 u30)) _ := hP
        have hD : va_D A (az_cM g ad (va_up V 2 u30)) := hD
        rw [← Option.some.inj h]
        exact az_zret hx hb hr hlocks (az_nar (r := (1 : Int32)) (by decide +kernel)) hK hP hD hS dX7_lacks_45
  · replace h := az_pos c5 h
    refine lv_iconst (v := (1 : Int32)) hx hb dX7_lacks_8 (by decide) ?_
    refine lv_goto (tgt := 30) hx hb dX7_lacks_9 (by decide) ?_
    refine va_put (D := g.1) (ci := 7) (v := .int (1 : Int32)) (ty := .int) (C := RX7) (T := TX7) (N := 5) hx hb hts inX7_lacks_RX7 tyX7 tyX7_ok nmX7 hown hK hP hD hS 0 rfl rfl 3 (Nat.le_of_ble_eq_true rfl) (hts _ (List.mem_of_getElem? (i := 2) rfl)) (fun _ h9 => h9) rfl (by decide +kernel) rfl rfl (Nat.le_of_ble_eq_true rfl) dX7_lacks_30 (fun H locs hP hD hS => ?_)
    obtain ⟨u30, e30⟩ : ∃ w : Nat → Int32, w = upd (V 2) 1 (1 : Int32) := ⟨_, rfl⟩
    have hP : va_P g.1 az_cl (az_cM g ad (va_up V 2 u30)) H := by rw [e30]; exact hP
    have hD : va_D A (az_cM g ad (va_up V 2 u30)) := by rw [e30]; exact hD
    replace h := az_let e30 h
    refine lv_aload_n hx hb dX7_lacks_33 rfl (lv_at hl 0 rfl) ?_
    refine va_get (D := g.1) (ci := 7) (v := .int (u30 1)) (C := RX7) (T := TX7) (N := 5) hx hb hts inX7_lacks_RX7 hown hK hP 0 rfl rfl 3 (Nat.le_of_ble_eq_true rfl) (hts _ (List.mem_of_getElem? (i := 2) rfl)) (fun _ h9 => h9) rfl dX7_lacks_34 ?_
    refine lv_if_le (tgt := 44) hx hb dX7_lacks_37 (by decide) (fun c37 => ?_) (fun c37 => ?_)
    · replace h := az_pos c37 h
      refine lv_iconst (v := (0 : Int32)) hx hb dX7_lacks_44 (by decide) ?_
      have hP : va_P g.1 az_cl (az_cM g ad (va_up V 2 u30)) _ := hP
      have hD : va_D A (az_cM g ad (va_up V 2 u30)) := hD
      rw [← Option.some.inj h]
      exact az_zret hx hb hr hlocks (az_nar (r := (0 : Int32)) (by decide +kernel)) hK hP hD hS dX7_lacks_45
    · replace h := az_neg c37 h
      refine lv_iconst (v := (1 : Int32)) hx hb dX7_lacks_40 (by decide) ?_
      refine lv_goto (tgt := 45) hx hb dX7_lacks_41 (by decide) ?_
      have hP : va_P g.1 az_cl (az_cM g ad (va_up V 2 u30)) _ := hP
      have hD : va_D A (az_cM g ad (va_up V 2 u30)) := hD
      rw [← Option.some.inj h]
      exact az_zret hx hb hr hlocks (az_nar (r := (1 : Int32)) (by decide +kernel)) hK hP hD hS dX7_lacks_45

def FX7_owned_L4 : Nat → az_St → Int32 → Int32 → Int32 → Option (Int32)
  | 0, _, _, _, _ => none
  | n + 1, V, x1, y2, y3 => if (24 : Int32) ≤ y3 then (some (y2)) else ((FX7_inSnapshot V x1 y3).bind (fun o13 => if o13 = (-1 : Int32) then (FX7_owned_L4 n V x1 (y2 + (0 : Int32)) (y3 + (1 : Int32))) else ((FX7_ofBlock V o13 (0 : Int32)).bind (fun o29 => if o29 = (2 : Int32) then ((FX7_snapshotsOf V o13).bind (fun o39 => if o39 = (1 : Int32) <<< (x1 &&& 31) then (FX7_owned_L4 n V x1 (y2 + (1 : Int32)) (y3 + (1 : Int32))) else (FX7_owned_L4 n V x1 (y2 + (0 : Int32)) (y3 + (1 : Int32))))) else (FX7_owned_L4 n V x1 (y2 + (0 : Int32)) (y3 + (1 : Int32)))))))
theorem FX7_owned_L4_s (n : Nat) (V : az_St) (x1 : Int32) (y2 : Int32) (y3 : Int32) : FX7_owned_L4 (n + 1) V x1 y2 y3 = (if (24 : Int32) ≤ y3 then (some (y2)) else ((FX7_inSnapshot V x1 y3).bind (fun o13 => if o13 = (-1 : Int32) then (FX7_owned_L4 n V x1 (y2 + (0 : Int32)) (y3 + (1 : Int32))) else ((FX7_ofBlock V o13 (0 : Int32)).bind (fun o29 => if o29 = (2 : Int32) then ((FX7_snapshotsOf V o13).bind (fun o39 => if o39 = (1 : Int32) <<< (x1 &&& 31) then (FX7_owned_L4 n V x1 (y2 + (1 : Int32)) (y3 + (1 : Int32))) else (FX7_owned_L4 n V x1 (y2 + (0 : Int32)) (y3 + (1 : Int32))))) else (FX7_owned_L4 n V x1 (y2 + (0 : Int32)) (y3 + (1 : Int32)))))))) := rfl
def FX7_owned (V : az_St) (x1 : Int32) : Option (Int32) := FX7_owned_L4 az_fuel V x1 (0 : Int32) (0 : Int32)
set_option maxHeartbeats 4000000 in
set_option maxRecDepth 100000 in
theorem kX7_owned (l : Launch) (g : az_G) (ad : Nat → Nat) (V : az_St) (x1 : Int32) (o : Int32) (h : FX7_owned V x1 = some o) : az_I l yX7_owned wsX7_owned ({ frames := 2, cells := 0, slots := 0, locals := 46 } : Room) [.ref (ad 0), .int x1] g (az_cM g ad V) o (az_cM g ad V) := by
  refine az_body (cc := cX7_owned) (maxL := 5) (ret := (some .int)) (Qc := fun A => az_QI g (az_cM g ad V) o A) (by decide +kernel) rfl (Nat.le_of_ble_eq_true rfl) ?_
  intro p e s m args below meth c A hx hb hr hts hown hml hlocks hA hK hP hD hS ls hl
  have hl : lv_has ls 5 [(0, .ref (ad 0)), (1, .int x1)] := hl
  unfold FX7_owned at h
  have hL4 : ∀ (n : Nat) (y2 : Int32) (y3 : Int32) (H : Heap) (locs : List Loc) (ls : Array Slot), FX7_owned_L4 n V x1 y2 y3 = some o → va_P g.1 az_cl (az_cM g ad V) H → va_D A (az_cM g ad V) → va_S A s.heap H locs → lv_has ls 5 [(0, .ref (ad 0)), (1, .int x1), (2, .int y2), (3, .int y3)] → W p l e ({ frames := 2, cells := 0, slots := 0, locals := 46 } : Room) s m args below meth c H locs 0 0 (MQ below (az_QI g (az_cM g ad V) o A) args s 0 0 A) (F0 m 4 ls []) := by
    intro n
    induction n with
    | zero => intro y2 y3 H locs ls h; exact az_non h
    | succ n ih =>
      intro y2 y3 H locs ls h hP hD hS hl
      rw [FX7_owned_L4_s] at h
      refine lv_iload_n hx hb dX7_owned_4 rfl (lv_at hl 3 rfl) ?_
      refine lv_bipush (v := (24 : Int32)) hx hb dX7_owned_5 (by decide) ?_
      refine lv_icmp_ge (tgt := 61) hx hb dX7_owned_7 (by decide) (fun c7 => ?_) (fun c7 => ?_)
      · replace h := az_pos c7 h
        refine lv_iload_n hx hb dX7_owned_61 rfl (lv_at hl 2 rfl) ?_
        have hP : va_P g.1 az_cl (az_cM g ad V) _ := hP
        have hD : va_D A (az_cM g ad V) := hD
        rw [← Option.some.inj h]
        exact az_iret hx hb hr hlocks hK hP hD hS dX7_owned_62
      · replace h := az_neg c7 h
        refine lv_aload_n hx hb dX7_owned_10 rfl (lv_at hl 0 rfl) ?_
        refine lv_iload_n hx hb dX7_owned_11 rfl (lv_at hl 1 rfl) ?_
        refine lv_iload_n hx hb dX7_owned_12 rfl (lv_at hl 3 rfl) ?_
        obtain ⟨o13, hc13, h⟩ := az_bnd h
        refine az_callVi (w2 := az_cM g ad V) (As := [.int x1, .int y3]) (rest := []) ⟨hx, hb, hml, hown, hts⟩ hl.1 (kX7_inSnapshot l g ad V x1 y3 o13 hc13) (cwV 2 hts gX7_owned_X7_inSnapshot rfl rfl rfl (by decide +kernel) ⟨Nat.le_of_ble_eq_true rfl, Nat.le_of_ble_eq_true rfl⟩) rfl hK hP hD hS hA [0, 1, 2, 3] [] [0, 1, 2, 3] rfl rfl rfl rfl rfl (by decide) rfl rfl rfl 0 rfl rfl rfl (Nat.le_of_ble_eq_true rfl) dX7_owned_13 ⟨Nat.zero_le _, Nat.zero_le _⟩ rfl (fun H locs hP hD hS => ?_)
        refine lv_istore (lv' := [(4, .int o13), (0, .ref (ad 0)), (1, .int x1), (2, .int y2), (3, .int y3)]) hx hb dX7_owned_16 hl (by decide) rfl (fun ls hl => ?_)
        refine lv_iload_n hx hb dX7_owned_18 rfl (lv_at hl 3 rfl) ?_
        refine lv_iload hx hb dX7_owned_19 (lv_at hl 0 rfl) ?_
        refine lv_iconst (v := (-1 : Int32)) hx hb dX7_owned_21 (by decide) ?_
        refine lv_icmp_eq (tgt := 52) hx hb dX7_owned_22 (by decide) (fun c22 => ?_) (fun c22 => ?_)
        · replace h := az_pos c22 h
          refine lv_iconst (v := (0 : Int32)) hx hb dX7_owned_52 (by decide) ?_
          refine lv_iadd hx hb dX7_owned_53 ?_
          refine lv_istore_n (lv' := [(2, .int (y2 + (0 : Int32))), (4, .int o13), (0, .ref (ad 0)), (1, .int x1), (3, .int y3)]) hx hb dX7_owned_54 rfl hl (by decide) rfl (fun ls hl => ?_)
          refine lv_iinc (v := y3 + (1 : Int32)) (lv' := [(3, .int (y3 + (1 : Int32))), (2, .int (y2 + (0 : Int32))), (4, .int o13), (0, .ref (ad 0)), (1, .int x1)]) hx hb dX7_owned_55 hl (k := 4) rfl (rfl) (by decide) rfl (fun ls hl => ?_)
          refine lv_goto (tgt := 4) hx hb dX7_owned_58 (by decide) ?_
          have hP : va_P g.1 az_cl (az_cM g ad V) _ := hP
          have hD : va_D A (az_cM g ad V) := hD
          exact ih (y2 + (0 : Int32)) (y3 + (1 : Int32)) _ _ ls h hP hD hS (lv_sub hl [3, 4, 1, 0] rfl)
        · replace h := az_neg c22 h
          refine lv_aload_n hx hb dX7_owned_25 rfl (lv_at hl 1 rfl) ?_
          refine lv_iload hx hb dX7_owned_26 (lv_at hl 0 rfl) ?_
          refine lv_iconst (v := (0 : Int32)) hx hb dX7_owned_28 (by decide) ?_
          obtain ⟨o29, hc29, h⟩ := az_bnd h
          refine az_callVi (w2 := az_cM g ad V) (As := [.int o13, .int (0 : Int32)]) (rest := [.int y2]) ⟨hx, hb, hml, hown, hts⟩ hl.1 (kX7_ofBlock l g ad V o13 (0 : Int32) o29 hc29) (cwV 2 hts gX7_owned_X7_ofBlock rfl rfl rfl (by decide +kernel) ⟨Nat.le_of_ble_eq_true rfl, Nat.le_of_ble_eq_true rfl⟩) rfl hK hP hD hS hA [0, 1, 2, 3] [] [0, 1, 2, 3] rfl rfl rfl rfl rfl (by decide) rfl rfl rfl 0 rfl rfl rfl (Nat.le_of_ble_eq_true rfl) dX7_owned_29 ⟨Nat.zero_le _, Nat.zero_le _⟩ rfl (fun H locs hP hD hS => ?_)
          refine lv_iconst (v := (2 : Int32)) hx hb dX7_owned_32 (by decide) ?_
          refine lv_icmp_ne (tgt := 52) hx hb dX7_owned_33 (by decide) (fun c33 => ?_) (fun c33 => ?_)
          · replace h := az_neg c33 h
            refine lv_iconst (v := (0 : Int32)) hx hb dX7_owned_52 (by decide) ?_
            refine lv_iadd hx hb dX7_owned_53 ?_
            refine lv_istore_n (lv' := [(2, .int (y2 + (0 : Int32))), (4, .int o13), (0, .ref (ad 0)), (1, .int x1), (3, .int y3)]) hx hb dX7_owned_54 rfl hl (by decide) rfl (fun ls hl => ?_)
            refine lv_iinc (v := y3 + (1 : Int32)) (lv' := [(3, .int (y3 + (1 : Int32))), (2, .int (y2 + (0 : Int32))), (4, .int o13), (0, .ref (ad 0)), (1, .int x1)]) hx hb dX7_owned_55 hl (k := 4) rfl (rfl) (by decide) rfl (fun ls hl => ?_)
            refine lv_goto (tgt := 4) hx hb dX7_owned_58 (by decide) ?_
            have hP : va_P g.1 az_cl (az_cM g ad V) _ := hP
            have hD : va_D A (az_cM g ad V) := hD
            exact ih (y2 + (0 : Int32)) (y3 + (1 : Int32)) _ _ ls h hP hD hS (lv_sub hl [3, 4, 1, 0] rfl)
          · replace h := az_pos c33 h
            refine lv_aload_n hx hb dX7_owned_36 rfl (lv_at hl 1 rfl) ?_
            refine lv_iload hx hb dX7_owned_37 (lv_at hl 0 rfl) ?_
            obtain ⟨o39, hc39, h⟩ := az_bnd h
            refine az_callVi (w2 := az_cM g ad V) (As := [.int o13]) (rest := [.int y2]) ⟨hx, hb, hml, hown, hts⟩ hl.1 (kX7_snapshotsOf l g ad V o13 o39 hc39) (cwV 1 hts gX7_owned_X7_snapshotsOf rfl rfl rfl (by decide +kernel) ⟨Nat.le_of_ble_eq_true rfl, Nat.le_of_ble_eq_true rfl⟩) rfl hK hP hD hS hA [0, 1, 2, 3] [] [0, 1, 2, 3] rfl rfl rfl rfl rfl (by decide) rfl rfl rfl 0 rfl rfl rfl (Nat.le_of_ble_eq_true rfl) dX7_owned_39 ⟨Nat.zero_le _, Nat.zero_le _⟩ rfl (fun H locs hP hD hS => ?_)
            refine lv_iconst (v := (1 : Int32)) hx hb dX7_owned_42 (by decide) ?_
            refine lv_iload_n hx hb dX7_owned_43 rfl (lv_at hl 2 rfl) ?_
            refine lv_ishl hx hb dX7_owned_44 ?_
            refine lv_icmp_ne (tgt := 52) hx hb dX7_owned_45 (by decide) (fun c45 => ?_) (fun c45 => ?_)
            · replace h := az_neg c45 h
              refine lv_iconst (v := (0 : Int32)) hx hb dX7_owned_52 (by decide) ?_
              refine lv_iadd hx hb dX7_owned_53 ?_
              refine lv_istore_n (lv' := [(2, .int (y2 + (0 : Int32))), (4, .int o13), (0, .ref (ad 0)), (1, .int x1), (3, .int y3)]) hx hb dX7_owned_54 rfl hl (by decide) rfl (fun ls hl => ?_)
              refine lv_iinc (v := y3 + (1 : Int32)) (lv' := [(3, .int (y3 + (1 : Int32))), (2, .int (y2 + (0 : Int32))), (4, .int o13), (0, .ref (ad 0)), (1, .int x1)]) hx hb dX7_owned_55 hl (k := 4) rfl (rfl) (by decide) rfl (fun ls hl => ?_)
              refine lv_goto (tgt := 4) hx hb dX7_owned_58 (by decide) ?_
              have hP : va_P g.1 az_cl (az_cM g ad V) _ := hP
              have hD : va_D A (az_cM g ad V) := hD
              exact ih (y2 + (0 : Int32)) (y3 + (1 : Int32)) _ _ ls h hP hD hS (lv_sub hl [3, 4, 1, 0] rfl)
            · replace h := az_pos c45 h
              refine lv_iconst (v := (1 : Int32)) hx hb dX7_owned_48 (by decide) ?_
              refine lv_goto (tgt := 53) hx hb dX7_owned_49 (by decide) ?_
              refine lv_iadd hx hb dX7_owned_53 ?_
              refine lv_istore_n (lv' := [(2, .int (y2 + (1 : Int32))), (4, .int o13), (0, .ref (ad 0)), (1, .int x1), (3, .int y3)]) hx hb dX7_owned_54 rfl hl (by decide) rfl (fun ls hl => ?_)
              refine lv_iinc (v := y3 + (1 : Int32)) (lv' := [(3, .int (y3 + (1 : Int32))), (2, .int (y2 + (1 : Int32))), (4, .int o13), (0, .ref (ad 0)), (1, .int x1)]) hx hb dX7_owned_55 hl (k := 4) rfl (rfl) (by decide) rfl (fun ls hl => ?_)
              refine lv_goto (tgt := 4) hx hb dX7_owned_58 (by decide) ?_
              have hP : va_P g.1 az_cl (az_cM g ad V) _ := hP
              have hD : va_D A (az_cM g ad V) := hD
              exact ih (y2 + (1 : Int32)) (y3 + (1 : Int32)) _ _ ls h hP hD hS (lv_sub hl [3, 4, 1, 0] rfl)
  refine lv_iconst (v := (0 : Int32)) hx hb dX7_owned_0 (by decide) ?_
  refine lv_istore_n (lv' := [(2, .int (0 : Int32)), (0, .ref (ad 0)), (1, .int x1)]) hx hb dX7_owned_1 rfl hl (by decide) rfl (fun ls hl => ?_)
  refine lv_iconst (v := (0 : Int32)) hx hb dX7_owned_2 (by decide) ?_
  refine lv_istore_n (lv' := [(3, .int (0 : Int32)), (2, .int (0 : Int32)), (0, .ref (ad 0)), (1, .int x1)]) hx hb dX7_owned_3 rfl hl (by decide) rfl (fun ls hl => ?_)
  have hP : va_P g.1 az_cl (az_cM g ad V) _ := hP
  have hD : va_D A (az_cM g ad V) := hD
  exact hL4 az_fuel (0 : Int32) (0 : Int32) _ _ ls h hP hD hS (lv_sub hl [2, 3, 1, 0] rfl)

def FX7_dropSnapshot_L33 : Nat → az_St → Int32 → (Nat → Int32) → (Nat → Int32) → (Nat → Int32) → Int32 → Int32 → Option (Int32 × (Nat → Int32) × (Nat → Int32) × (Nat → Int32))
  | 0, _, _, _, _, _, _, _ => none
  | n + 1, V, x1, wV0, wV1, wV2, y2, y3 => if (24 : Int32) ≤ y3 then (some (y2, wV0, wV1, wV2)) else ((FX7_inSnapshot (va_up (va_up (va_up V 0 wV0) 1 wV1) 2 wV2) x1 y3).bind (fun o42 => if o42 = (-1 : Int32) then (if az_in (((868 : Int32) + ((24 : Int32) * x1)) + y3) 1036 = true then az_lt (upd wV0 (((868 : Int32) + ((24 : Int32) * x1)) + y3).toNatClampNeg (-1 : Int32)) (fun u94 => FX7_dropSnapshot_L33 n V x1 u94 wV1 wV2 y2 (y3 + (1 : Int32))) else none) else ((FX7_ofBlock (va_up (va_up (va_up V 0 wV0) 1 wV1) 2 wV2) o42 (0 : Int32)).bind (fun o57 => if o57 = (2 : Int32) then ((FX7_snapshotsOf (va_up (va_up (va_up V 0 wV0) 1 wV1) 2 wV2) o42).bind (fun o67 => if o67 = (0 : Int32) then ((FX7_waits (va_up (va_up (va_up V 0 wV0) 1 wV1) 2 wV2) o42).bind (fun o76 => if az_in (((868 : Int32) + ((24 : Int32) * x1)) + y3) 1036 = true then az_lt (upd o76 (((868 : Int32) + ((24 : Int32) * x1)) + y3).toNatClampNeg (-1 : Int32)) (fun u94 => FX7_dropSnapshot_L33 n V x1 u94 wV1 wV2 y2 (y3 + (1 : Int32))) else none)) else (if az_in (((868 : Int32) + ((24 : Int32) * x1)) + y3) 1036 = true then az_lt (upd wV0 (((868 : Int32) + ((24 : Int32) * x1)) + y3).toNatClampNeg (-1 : Int32)) (fun u94 => FX7_dropSnapshot_L33 n V x1 u94 wV1 wV2 y2 (y3 + (1 : Int32))) else none))) else (if az_in (((868 : Int32) + ((24 : Int32) * x1)) + y3) 1036 = true then az_lt (upd wV0 (((868 : Int32) + ((24 : Int32) * x1)) + y3).toNatClampNeg (-1 : Int32)) (fun u94 => FX7_dropSnapshot_L33 n V x1 u94 wV1 wV2 y2 (y3 + (1 : Int32))) else none)))))
theorem FX7_dropSnapshot_L33_s (n : Nat) (V : az_St) (x1 : Int32) (wV0 : Nat → Int32) (wV1 : Nat → Int32) (wV2 : Nat → Int32) (y2 : Int32) (y3 : Int32) : FX7_dropSnapshot_L33 (n + 1) V x1 wV0 wV1 wV2 y2 y3 = (if (24 : Int32) ≤ y3 then (some (y2, wV0, wV1, wV2)) else ((FX7_inSnapshot (va_up (va_up (va_up V 0 wV0) 1 wV1) 2 wV2) x1 y3).bind (fun o42 => if o42 = (-1 : Int32) then (if az_in (((868 : Int32) + ((24 : Int32) * x1)) + y3) 1036 = true then az_lt (upd wV0 (((868 : Int32) + ((24 : Int32) * x1)) + y3).toNatClampNeg (-1 : Int32)) (fun u94 => FX7_dropSnapshot_L33 n V x1 u94 wV1 wV2 y2 (y3 + (1 : Int32))) else none) else ((FX7_ofBlock (va_up (va_up (va_up V 0 wV0) 1 wV1) 2 wV2) o42 (0 : Int32)).bind (fun o57 => if o57 = (2 : Int32) then ((FX7_snapshotsOf (va_up (va_up (va_up V 0 wV0) 1 wV1) 2 wV2) o42).bind (fun o67 => if o67 = (0 : Int32) then ((FX7_waits (va_up (va_up (va_up V 0 wV0) 1 wV1) 2 wV2) o42).bind (fun o76 => if az_in (((868 : Int32) + ((24 : Int32) * x1)) + y3) 1036 = true then az_lt (upd o76 (((868 : Int32) + ((24 : Int32) * x1)) + y3).toNatClampNeg (-1 : Int32)) (fun u94 => FX7_dropSnapshot_L33 n V x1 u94 wV1 wV2 y2 (y3 + (1 : Int32))) else none)) else (if az_in (((868 : Int32) + ((24 : Int32) * x1)) + y3) 1036 = true then az_lt (upd wV0 (((868 : Int32) + ((24 : Int32) * x1)) + y3).toNatClampNeg (-1 : Int32)) (fun u94 => FX7_dropSnapshot_L33 n V x1 u94 wV1 wV2 y2 (y3 + (1 : Int32))) else none))) else (if az_in (((868 : Int32) + ((24 : Int32) * x1)) + y3) 1036 = true then az_lt (upd wV0 (((868 : Int32) + ((24 : Int32) * x1)) + y3).toNatClampNeg (-1 : Int32)) (fun u94 => FX7_dropSnapshot_L33 n V x1 u94 wV1 wV2 y2 (y3 + (1 : Int32))) else none)))))) := rfl
def FX7_dropSnapshot (V : az_St) (x1 : Int32) : Option (Int32 × (Nat → Int32) × (Nat → Int32) × (Nat → Int32)) := (FX7_lacks V x1).bind (fun o2 => if o2.1 = (0 : Int32) then ((FX7_keeps (va_up V 2 o2.2)).bind (fun o11 => (FX7_owned (va_up (va_up V 1 o11.1) 2 o11.2) x1).bind (fun o16 => if az_in ((864 : Int32) + x1) 1036 = true then az_lt (upd (V 0) ((864 : Int32) + x1).toNatClampNeg (0 : Int32)) (fun u30 => FX7_dropSnapshot_L33 az_fuel V x1 u30 o11.1 o11.2 o16 (0 : Int32)) else none))) else (some ((0 : Int32), (V 0), (V 1), o2.2)))
theorem inX7_dropSnapshot_RX7 : ∀ w ∈ wsX70, w ∈ wsX7_dropSnapshot := az_inr [45, 46, 47, 48, 49] (by decide +kernel)
set_option maxHeartbeats 4000000 in
set_option maxRecDepth 100000 in
theorem kX7_dropSnapshot (l : Launch) (g : az_G) (ad : Nat → Nat) (V : az_St) (x1 : Int32) (o : Int32 × (Nat → Int32) × (Nat → Int32) × (Nat → Int32)) (h : FX7_dropSnapshot V x1 = some o) : az_I l yX7_dropSnapshot wsX7_dropSnapshot ({ frames := 3, cells := 0, slots := 0, locals := 70 } : Room) [.ref (ad 0), .int x1] g (az_cM g ad V) o.1 (az_cM g ad (va_up (va_up (va_up V 0 o.2.1) 1 o.2.2.1) 2 o.2.2.2)) := by
  refine az_body (cc := cX7_dropSnapshot) (maxL := 5) (ret := (some .int)) (Qc := fun A => az_QI g (az_cM g ad (va_up (va_up (va_up V 0 o.2.1) 1 o.2.2.1) 2 o.2.2.2)) o.1 A) (by decide +kernel) rfl (Nat.le_of_ble_eq_true rfl) ?_
  intro p e s m args below meth c A hx hb hr hts hown hml hlocks hA hK hP hD hS ls hl
  have hl : lv_has ls 5 [(0, .ref (ad 0)), (1, .int x1)] := hl
  unfold FX7_dropSnapshot at h
  have hL33 : ∀ (n : Nat) (wV0 : Nat → Int32) (wV1 : Nat → Int32) (wV2 : Nat → Int32) (y2 : Int32) (y3 : Int32) (H : Heap) (locs : List Loc) (ls : Array Slot), FX7_dropSnapshot_L33 n V x1 wV0 wV1 wV2 y2 y3 = some o → va_P g.1 az_cl (az_cM g ad (va_up (va_up (va_up V 0 wV0) 1 wV1) 2 wV2)) H → va_D A (az_cM g ad (va_up (va_up (va_up V 0 wV0) 1 wV1) 2 wV2)) → va_S A s.heap H locs → lv_has ls 5 [(0, .ref (ad 0)), (1, .int x1), (2, .int y2), (3, .int y3)] → W p l e ({ frames := 3, cells := 0, slots := 0, locals := 70 } : Room) s m args below meth c H locs 0 0 (MQ below (az_QI g (az_cM g ad (va_up (va_up (va_up V 0 o.2.1) 1 o.2.2.1) 2 o.2.2.2)) o.1 A) args s 0 0 A) (F0 m 33 ls []) := by
    intro n
    induction n with
    | zero => intro wV0 wV1 wV2 y2 y3 H locs ls h; exact az_non h
    | succ n ih =>
      intro wV0 wV1 wV2 y2 y3 H locs ls h hP hD hS hl
      rw [FX7_dropSnapshot_L33_s] at h
      refine lv_iload_n hx hb dX7_dropSnapshot_33 rfl (lv_at hl 3 rfl) ?_
      refine lv_bipush (v := (24 : Int32)) hx hb dX7_dropSnapshot_34 (by decide) ?_
      refine lv_icmp_ge (tgt := 101) hx hb dX7_dropSnapshot_36 (by decide) (fun c36 => ?_) (fun c36 => ?_)
      · replace h := az_pos c36 h
        refine lv_iload_n hx hb dX7_dropSnapshot_101 rfl (lv_at hl 2 rfl) ?_
        have hP : va_P g.1 az_cl (az_cM g ad (va_up (va_up (va_up V 0 wV0) 1 wV1) 2 wV2)) _ := hP
        have hD : va_D A (az_cM g ad (va_up (va_up (va_up V 0 wV0) 1 wV1) 2 wV2)) := hD
        rw [← Option.some.inj h]
        exact az_iret hx hb hr hlocks hK hP hD hS dX7_dropSnapshot_102
      · replace h := az_neg c36 h
        refine lv_aload_n hx hb dX7_dropSnapshot_39 rfl (lv_at hl 0 rfl) ?_
        refine lv_iload_n hx hb dX7_dropSnapshot_40 rfl (lv_at hl 1 rfl) ?_
        refine lv_iload_n hx hb dX7_dropSnapshot_41 rfl (lv_at hl 3 rfl) ?_
        obtain ⟨o42, hc42, h⟩ := az_bnd h
        refine az_callVi (w2 := az_cM g ad (va_up (va_up (va_up V 0 wV0) 1 wV1) 2 wV2)) (As := [.int x1, .int y3]) (rest := []) ⟨hx, hb, hml, hown, hts⟩ hl.1 (kX7_inSnapshot l g ad (va_up (va_up (va_up V 0 wV0) 1 wV1) 2 wV2) x1 y3 o42 hc42) (cwV 2 hts gX7_dropSnapshot_X7_inSnapshot rfl rfl rfl (by decide +kernel) ⟨Nat.le_of_ble_eq_true rfl, Nat.le_of_ble_eq_true rfl⟩) rfl hK hP hD hS hA [0, 1, 2, 3] [] [0, 1, 2, 3] rfl rfl rfl rfl rfl (by decide) rfl rfl rfl 0 rfl rfl rfl (Nat.le_of_ble_eq_true rfl) dX7_dropSnapshot_42 ⟨Nat.zero_le _, Nat.zero_le _⟩ rfl (fun H locs hP hD hS => ?_)
        refine lv_istore (lv' := [(4, .int o42), (0, .ref (ad 0)), (1, .int x1), (2, .int y2), (3, .int y3)]) hx hb dX7_dropSnapshot_45 hl (by decide) rfl (fun ls hl => ?_)
        refine lv_iload hx hb dX7_dropSnapshot_47 (lv_at hl 0 rfl) ?_
        refine lv_iconst (v := (-1 : Int32)) hx hb dX7_dropSnapshot_49 (by decide) ?_
        refine lv_icmp_eq (tgt := 79) hx hb dX7_dropSnapshot_50 (by decide) (fun c50 => ?_) (fun c50 => ?_)
        · replace h := az_pos c50 h
          refine lv_aload_n hx hb dX7_dropSnapshot_79 rfl (lv_at hl 1 rfl) ?_
          refine va_get (D := g.1) (ci := 7) (v := .ref (ad 1)) (C := RX7) (T := TX7) (N := 5) hx hb hts inX7_dropSnapshot_RX7 hown hK hP 0 rfl rfl 0 (Nat.le_of_ble_eq_true rfl) (hts _ (List.mem_of_getElem? (i := 1) rfl)) (fun _ h9 => h9) rfl dX7_dropSnapshot_80 ?_
          refine lv_sipush (v := (868 : Int32)) hx hb dX7_dropSnapshot_83 (by decide) ?_
          refine lv_bipush (v := (24 : Int32)) hx hb dX7_dropSnapshot_86 (by decide) ?_
          refine lv_iload_n hx hb dX7_dropSnapshot_88 rfl (lv_at hl 2 rfl) ?_
          refine lv_imul hx hb dX7_dropSnapshot_89 ?_
          refine lv_iadd hx hb dX7_dropSnapshot_90 ?_
          refine lv_iload_n hx hb dX7_dropSnapshot_91 rfl (lv_at hl 4 rfl) ?_
          refine lv_iadd hx hb dX7_dropSnapshot_92 ?_
          refine lv_iconst (v := (-1 : Int32)) hx hb dX7_dropSnapshot_93 (by decide) ?_
          obtain ⟨i94, h⟩ := az_ite h
          refine va_iast (D := g.1) (f := wV0) hx hb hK hP hD hS 1 0 rfl rfl (az_vin i94) dX7_dropSnapshot_94 (fun H locs hP hD hS => ?_)
          obtain ⟨u94, e94⟩ : ∃ w : Nat → Int32, w = upd wV0 (((868 : Int32) + ((24 : Int32) * x1)) + y3).toNatClampNeg (-1 : Int32) := ⟨_, rfl⟩
          have hP : va_P g.1 az_cl (az_cM g ad (va_up (va_up (va_up V 0 u94) 1 wV1) 2 wV2)) H := by rw [e94]; exact hP
          have hD : va_D A (az_cM g ad (va_up (va_up (va_up V 0 u94) 1 wV1) 2 wV2)) := by rw [e94]; exact hD
          replace h := az_let e94 h
          refine lv_iinc (v := y3 + (1 : Int32)) (lv' := [(3, .int (y3 + (1 : Int32))), (4, .int o42), (0, .ref (ad 0)), (1, .int x1), (2, .int y2)]) hx hb dX7_dropSnapshot_95 hl (k := 4) rfl (rfl) (by decide) rfl (fun ls hl => ?_)
          refine lv_goto (tgt := 33) hx hb dX7_dropSnapshot_98 (by decide) ?_
          have hP : va_P g.1 az_cl (az_cM g ad (va_up (va_up (va_up V 0 u94) 1 wV1) 2 wV2)) _ := hP
          have hD : va_D A (az_cM g ad (va_up (va_up (va_up V 0 u94) 1 wV1) 2 wV2)) := hD
          exact ih u94 wV1 wV2 y2 (y3 + (1 : Int32)) _ _ ls h hP hD hS (lv_sub hl [2, 3, 4, 0] rfl)
        · replace h := az_neg c50 h
          refine lv_aload_n hx hb dX7_dropSnapshot_53 rfl (lv_at hl 1 rfl) ?_
          refine lv_iload hx hb dX7_dropSnapshot_54 (lv_at hl 0 rfl) ?_
          refine lv_iconst (v := (0 : Int32)) hx hb dX7_dropSnapshot_56 (by decide) ?_
          obtain ⟨o57, hc57, h⟩ := az_bnd h
          refine az_callVi (w2 := az_cM g ad (va_up (va_up (va_up V 0 wV0) 1 wV1) 2 wV2)) (As := [.int o42, .int (0 : Int32)]) (rest := []) ⟨hx, hb, hml, hown, hts⟩ hl.1 (kX7_ofBlock l g ad (va_up (va_up (va_up V 0 wV0) 1 wV1) 2 wV2) o42 (0 : Int32) o57 hc57) (cwV 2 hts gX7_dropSnapshot_X7_ofBlock rfl rfl rfl (by decide +kernel) ⟨Nat.le_of_ble_eq_true rfl, Nat.le_of_ble_eq_true rfl⟩) rfl hK hP hD hS hA [0, 1, 2, 3] [] [0, 1, 2, 3] rfl rfl rfl rfl rfl (by decide) rfl rfl rfl 0 rfl rfl rfl (Nat.le_of_ble_eq_true rfl) dX7_dropSnapshot_57 ⟨Nat.zero_le _, Nat.zero_le _⟩ rfl (fun H locs hP hD hS => ?_)
          refine lv_iconst (v := (2 : Int32)) hx hb dX7_dropSnapshot_60 (by decide) ?_
          refine lv_icmp_ne (tgt := 79) hx hb dX7_dropSnapshot_61 (by decide) (fun c61 => ?_) (fun c61 => ?_)
          · replace h := az_neg c61 h
            refine lv_aload_n hx hb dX7_dropSnapshot_79 rfl (lv_at hl 1 rfl) ?_
            refine va_get (D := g.1) (ci := 7) (v := .ref (ad 1)) (C := RX7) (T := TX7) (N := 5) hx hb hts inX7_dropSnapshot_RX7 hown hK hP 0 rfl rfl 0 (Nat.le_of_ble_eq_true rfl) (hts _ (List.mem_of_getElem? (i := 1) rfl)) (fun _ h9 => h9) rfl dX7_dropSnapshot_80 ?_
            refine lv_sipush (v := (868 : Int32)) hx hb dX7_dropSnapshot_83 (by decide) ?_
            refine lv_bipush (v := (24 : Int32)) hx hb dX7_dropSnapshot_86 (by decide) ?_
            refine lv_iload_n hx hb dX7_dropSnapshot_88 rfl (lv_at hl 2 rfl) ?_
            refine lv_imul hx hb dX7_dropSnapshot_89 ?_
            refine lv_iadd hx hb dX7_dropSnapshot_90 ?_
            refine lv_iload_n hx hb dX7_dropSnapshot_91 rfl (lv_at hl 4 rfl) ?_
            refine lv_iadd hx hb dX7_dropSnapshot_92 ?_
            refine lv_iconst (v := (-1 : Int32)) hx hb dX7_dropSnapshot_93 (by decide) ?_
            obtain ⟨i94, h⟩ := az_ite h
            refine va_iast (D := g.1) (f := wV0) hx hb hK hP hD hS 1 0 rfl rfl (az_vin i94) dX7_dropSnapshot_94 (fun H locs hP hD hS => ?_)
            obtain ⟨u94, e94⟩ : ∃ w : Nat → Int32, w = upd wV0 (((868 : Int32) + ((24 : Int32) * x1)) + y3).toNatClampNeg (-1 : Int32) := ⟨_, rfl⟩
            have hP : va_P g.1 az_cl (az_cM g ad (va_up (va_up (va_up V 0 u94) 1 wV1) 2 wV2)) H := by rw [e94]; exact hP
            have hD : va_D A (az_cM g ad (va_up (va_up (va_up V 0 u94) 1 wV1) 2 wV2)) := by rw [e94]; exact hD
            replace h := az_let e94 h
            refine lv_iinc (v := y3 + (1 : Int32)) (lv' := [(3, .int (y3 + (1 : Int32))), (4, .int o42), (0, .ref (ad 0)), (1, .int x1), (2, .int y2)]) hx hb dX7_dropSnapshot_95 hl (k := 4) rfl (rfl) (by decide) rfl (fun ls hl => ?_)
            refine lv_goto (tgt := 33) hx hb dX7_dropSnapshot_98 (by decide) ?_
            have hP : va_P g.1 az_cl (az_cM g ad (va_up (va_up (va_up V 0 u94) 1 wV1) 2 wV2)) _ := hP
            have hD : va_D A (az_cM g ad (va_up (va_up (va_up V 0 u94) 1 wV1) 2 wV2)) := hD
            exact ih u94 wV1 wV2 y2 (y3 + (1 : Int32)) _ _ ls h hP hD hS (lv_sub hl [2, 3, 4, 0] rfl)
          · replace h := az_pos c61 h
            refine lv_aload_n hx hb dX7_dropSnapshot_64 rfl (lv_at hl 1 rfl) ?_
            refine lv_iload hx hb dX7_dropSnapshot_65 (lv_at hl 0 rfl) ?_
            obtain ⟨o67, hc67, h⟩ := az_bnd h
            refine az_callVi (w2 := az_cM g ad (va_up (va_up (va_up V 0 wV0) 1 wV1) 2 wV2)) (As := [.int o42]) (rest := []) ⟨hx, hb, hml, hown, hts⟩ hl.1 (kX7_snapshotsOf l g ad (va_up (va_up (va_up V 0 wV0) 1 wV1) 2 wV2) o42 o67 hc67) (cwV 1 hts gX7_dropSnapshot_X7_snapshotsOf rfl rfl rfl (by decide +kernel) ⟨Nat.le_of_ble_eq_true rfl, Nat.le_of_ble_eq_true rfl⟩) rfl hK hP hD hS hA [0, 1, 2, 3] [] [0, 1, 2, 3] rfl rfl rfl rfl rfl (by decide) rfl rfl rfl 0 rfl rfl rfl (Nat.le_of_ble_eq_true rfl) dX7_dropSnapshot_67 ⟨Nat.zero_le _, Nat.zero_le _⟩ rfl (fun H locs hP hD hS => ?_)
            refine lv_if_ne (tgt := 79) hx hb dX7_dropSnapshot_70 (by decide) (fun c70 => ?_) (fun c70 => ?_)
            · replace h := az_neg c70 h
              refine lv_aload_n hx hb dX7_dropSnapshot_79 rfl (lv_at hl 1 rfl) ?_
              refine va_get (D := g.1) (ci := 7) (v := .ref (ad 1)) (C := RX7) (T := TX7) (N := 5) hx hb hts inX7_dropSnapshot_RX7 hown hK hP 0 rfl rfl 0 (Nat.le_of_ble_eq_true rfl) (hts _ (List.mem_of_getElem? (i := 1) rfl)) (fun _ h9 => h9) rfl dX7_dropSnapshot_80 ?_
              refine lv_sipush (v := (868 : Int32)) hx hb dX7_dropSnapshot_83 (by decide) ?_
              refine lv_bipush (v := (24 : Int32)) hx hb dX7_dropSnapshot_86 (by decide) ?_
              refine lv_iload_n hx hb dX7_dropSnapshot_88 rfl (lv_at hl 2 rfl) ?_
              refine lv_imul hx hb dX7_dropSnapshot_89 ?_
              refine lv_iadd hx hb dX7_dropSnapshot_90 ?_
              refine lv_iload_n hx hb dX7_dropSnapshot_91 rfl (lv_at hl 4 rfl) ?_
              refine lv_iadd hx hb dX7_dropSnapshot_92 ?_
              refine lv_iconst (v := (-1 : Int32)) hx hb dX7_dropSnapshot_93 (by decide) ?_
              obtain ⟨i94, h⟩ := az_ite h
              refine va_iast (D := g.1) (f := wV0) hx hb hK hP hD hS 1 0 rfl rfl (az_vin i94) dX7_dropSnapshot_94 (fun H locs hP hD hS => ?_)
              obtain ⟨u94, e94⟩ : ∃ w : Nat → Int32, w = upd wV0 (((868 : Int32) + ((24 : Int32) * x1)) + y3).toNatClampNeg (-1 : Int32) := ⟨_, rfl⟩
              have hP : va_P g.1 az_cl (az_cM g ad (va_up (va_up (va_up V 0 u94) 1 wV1) 2 wV2)) H := by rw [e94]; exact hP
              have hD : va_D A (az_cM g ad (va_up (va_up (va_up V 0 u94) 1 wV1) 2 wV2)) := by rw [e94]; exact hD
              replace h := az_let e94 h
              refine lv_iinc (v := y3 + (1 : Int32)) (lv' := [(3, .int (y3 + (1 : Int32))), (4, .int o42), (0, .ref (ad 0)), (1, .int x1), (2, .int y2)]) hx hb dX7_dropSnapshot_95 hl (k := 4) rfl (rfl) (by decide) rfl (fun ls hl => ?_)
              refine lv_goto (tgt := 33) hx hb dX7_dropSnapshot_98 (by decide) ?_
              have hP : va_P g.1 az_cl (az_cM g ad (va_up (va_up (va_up V 0 u94) 1 wV1) 2 wV2)) _ := hP
              have hD : va_D A (az_cM g ad (va_up (va_up (va_up V 0 u94) 1 wV1) 2 wV2)) := hD
              exact ih u94 wV1 wV2 y2 (y3 + (1 : Int32)) _ _ ls h hP hD hS (lv_sub hl [2, 3, 4, 0] rfl)
            · replace h := az_pos c70 h
              refine lv_aload_n hx hb dX7_dropSnapshot_73 rfl (lv_at hl 1 rfl) ?_
              refine lv_iload hx hb dX7_dropSnapshot_74 (lv_at hl 0 rfl) ?_
              obtain ⟨o76, hc76, h⟩ := az_bnd h
              refine az_callVv (w2 := az_cM g ad (va_up (va_up (va_up V 0 o76) 1 wV1) 2 wV2)) (As := [.int o42]) (rest := []) ⟨hx, hb, hml, hown, hts⟩ hl.1 (kX7_waits l g ad (va_up (va_up (va_up V 0 wV0) 1 wV1) 2 wV2) o42 o76 hc76) (cwV 1 hts gX7_dropSnapshot_X7_waits rfl rfl rfl (by decide +kernel) ⟨Nat.le_of_ble_eq_true rfl, Nat.le_of_ble_eq_true rfl⟩) rfl hK hP hD hS hA [0, 1, 2, 3] [] [0, 1, 2, 3] rfl rfl rfl rfl rfl (by decide) rfl rfl rfl 0 rfl rfl rfl (Nat.le_of_ble_eq_true rfl) dX7_dropSnapshot_76 ⟨Nat.zero_le _, Nat.zero_le _⟩ rfl (fun H locs hP hD hS => ?_)
              refine lv_aload_n hx hb dX7_dropSnapshot_79 rfl (lv_at hl 1 rfl) ?_
              refine va_get (D := g.1) (ci := 7) (v := .ref (ad 1)) (C := RX7) (T := TX7) (N := 5) hx hb hts inX7_dropSnapshot_RX7 hown hK hP 0 rfl rfl 0 (Nat.le_of_ble_eq_true rfl) (hts _ (List.mem_of_getElem? (i := 1) rfl)) (fun _ h9 => h9) rfl dX7_dropSnapshot_80 ?_
              refine lv_sipush (v := (868 : Int32)) hx hb dX7_dropSnapshot_83 (by decide) ?_
              refine lv_bipush (v := (24 : Int32)) hx hb dX7_dropSnapshot_86 (by decide) ?_
              refine lv_iload_n hx hb dX7_dropSnapshot_88 rfl (lv_at hl 2 rfl) ?_
              refine lv_imul hx hb dX7_dropSnapshot_89 ?_
              refine lv_iadd hx hb dX7_dropSnapshot_90 ?_
              refine lv_iload_n hx hb dX7_dropSnapshot_91 rfl (lv_at hl 4 rfl) ?_
              refine lv_iadd hx hb dX7_dropSnapshot_92 ?_
              refine lv_iconst (v := (-1 : Int32)) hx hb dX7_dropSnapshot_93 (by decide) ?_
              obtain ⟨i94, h⟩ := az_ite h
              refine va_iast (D := g.1) (f := o76) hx hb hK hP hD hS 1 0 rfl rfl (az_vin i94) dX7_dropSnapshot_94 (fun H locs hP hD hS => ?_)
              obtain ⟨u94, e94⟩ : ∃ w : Nat → Int32, w = upd o76 (((868 : Int32) + ((24 : Int32) * x1)) + y3).toNatClampNeg (-1 : Int32) := ⟨_, rfl⟩
              have hP : va_P g.1 az_cl (az_cM g ad (va_up (va_up (va_up V 0 u94) 1 wV1) 2 wV2)) H := by rw [e94]; exact hP
              have hD : va_D A (az_cM g ad (va_up (va_up (va_up V 0 u94) 1 wV1) 2 wV2)) := by rw [e94]; exact hD
              replace h := az_let e94 h
              refine lv_iinc (v := y3 + (1 : Int32)) (lv' := [(3, .int (y3 + (1 : Int32))), (4, .int o42), (0, .ref (ad 0)), (1, .int x1), (2, .int y2)]) hx hb dX7_dropSnapshot_95 hl (k := 4) rfl (rfl) (by decide) rfl (fun ls hl => ?_)
              refine lv_goto (tgt := 33) hx hb dX7_dropSnapshot_98 (by decide) ?_
              have hP : va_P g.1 az_cl (az_cM g ad (va_up (va_up (va_up V 0 u94) 1 wV1) 2 wV2)) _ := hP
              have hD : va_D A (az_cM g ad (va_up (va_up (va_up V 0 u94) 1 wV1) 2 wV2)) := hD
              exact ih u94 wV1 wV2 y2 (y3 + (1 : Int32)) _ _ ls h hP hD hS (lv_sub hl [2, 3, 4, 0] rfl)
  refine lv_aload_n hx hb dX7_dropSnapshot_0 rfl (lv_at hl 0 rfl) ?_
  refine lv_iload_n hx hb dX7_dropSnapshot_1 rfl (lv_at hl 1 rfl) ?_
  obtain ⟨o2, hc2, h⟩ := az_bnd h
  refine az_callVi (w2 := az_cM g ad (va_up V 2 o2.2)) (As := [.int x1]) (rest := []) ⟨hx, hb, hml, hown, hts⟩ hl.1 (kX7_lacks l g ad V x1 o2 hc2) (cwV 1 hts gX7_dropSnapshot_X7_lacks rfl rfl rfl (by decide +kernel) ⟨Nat.le_of_ble_eq_true rfl, Nat.le_of_ble_eq_true rfl⟩) rfl hK hP hD hS hA [0, 1, 2, 3] [] [0, 1, 2, 3] rfl rfl rfl rfl rfl (by decide) rfl rfl rfl 0 rfl rfl rfl (Nat.le_of_ble_eq_true rfl) dX7_dropSnapshot_2 ⟨Nat.zero_le _, Nat.zero_le _⟩ rfl (fun H locs hP hD hS => ?_)
  refine lv_if_eq (tgt := 10) hx hb dX7_dropSnapshot_5 (by decide) (fun c5 => ?_) (fun c5 => ?_)
  · replace h := az_pos c5 h
    refine lv_aload_n hx hb dX7_dropSnapshot_10 rfl (lv_at hl 0 rfl) ?_
    obtain ⟨o11, hc11, h⟩ := az_bnd h
    refine az_callVv (w2 := az_cM g ad (va_up (va_up V 1 o11.1) 2 o11.2)) (As := []) (rest := []) ⟨hx, hb, hml, hown, hts⟩ hl.1 (kX7_keeps l g ad (va_up V 2 o2.2) o11 hc11) (cwV 0 hts gX7_dropSnapshot_X7_keeps rfl rfl rfl (by decide +kernel) ⟨Nat.le_of_ble_eq_true rfl, Nat.le_of_ble_eq_true rfl⟩) rfl hK hP hD hS hA [0, 1, 2, 3] [] [0, 1, 2, 3] rfl rfl rfl rfl rfl (by decide) rfl rfl rfl 0 rfl rfl rfl (Nat.le_of_ble_eq_true rfl) dX7_dropSnapshot_11 ⟨Nat.zero_le _, Nat.zero_le _⟩ rfl (fun H locs hP hD hS => ?_)
    refine lv_aload_n hx hb dX7_dropSnapshot_14 rfl (lv_at hl 0 rfl) ?_
    refine lv_iload_n hx hb dX7_dropSnapshot_15 rfl (lv_at hl 1 rfl) ?_
    obtain ⟨o16, hc16, h⟩ := az_bnd h
    refine az_callVi (w2 := az_cM g ad (va_up (va_up V 1 o11.1) 2 o11.2)) (As := [.int x1]) (rest := []) ⟨hx, hb, hml, hown, hts⟩ hl.1 (kX7_owned l g ad (va_up (va_up V 1 o11.1) 2 o11.2) x1 o16 hc16) (cwV 1 hts gX7_dropSnapshot_X7_owned rfl rfl rfl (by decide +kernel) ⟨Nat.le_of_ble_eq_true rfl, Nat.le_of_ble_eq_true rfl⟩) rfl hK hP hD hS hA [0, 1, 2, 3] [] [0, 1, 2, 3] rfl rfl rfl rfl rfl (by decide) rfl rfl rfl 0 rfl rfl rfl (Nat.le_of_ble_eq_true rfl) dX7_dropSnapshot_16 ⟨Nat.zero_le _, Nat.zero_le _⟩ rfl (fun H locs hP hD hS => ?_)
    refine lv_istore_n (lv' := [(2, .int o16), (0, .ref (ad 0)), (1, .int x1)]) hx hb dX7_dropSnapshot_19 rfl hl (by decide) rfl (fun ls hl => ?_)
    refine lv_aload_n hx hb dX7_dropSnapshot_20 rfl (lv_at hl 1 rfl) ?_
    refine va_get (D := g.1) (ci := 7) (v := .ref (ad 1)) (C := RX7) (T := TX7) (N := 5) hx hb hts inX7_dropSnapshot_RX7 hown hK hP 0 rfl rfl 0 (Nat.le_of_ble_eq_true rfl) (hts _ (List.mem_of_getElem? (i := 1) rfl)) (fun _ h9 => h9) rfl dX7_dropSnapshot_21 ?_
    refine lv_sipush (v := (864 : Int32)) hx hb dX7_dropSnapshot_24 (by decide) ?_
    refine lv_iload_n hx hb dX7_dropSnapshot_27 rfl (lv_at hl 2 rfl) ?_
    refine lv_iadd hx hb dX7_dropSnapshot_28 ?_
    refine lv_iconst (v := (0 : Int32)) hx hb dX7_dropSnapshot_29 (by decide) ?_
    obtain ⟨i30, h⟩ := az_ite h
    refine va_iast (D := g.1) (f := (V 0)) hx hb hK hP hD hS 1 0 rfl rfl (az_vin i30) dX7_dropSnapshot_30 (fun H locs hP hD hS => ?_)
    obtain ⟨u30, e30⟩ : ∃ w : Nat → Int32, w = upd (V 0) ((864 : Int32) + x1).toNatClampNeg (0 : Int32) := ⟨_, rfl⟩
    have hP : va_P g.1 az_cl (az_cM g ad (va_up (va_up (va_up V 0 u30) 1 o11.1) 2 o11.2)) H := by rw [e30]; exact hP
    have hD : va_D A (az_cM g ad (va_up (va_up (va_up V 0 u30) 1 o11.1) 2 o11.2)) := by rw [e30]; exact hD
    replace h := az_let e30 h
    refine lv_iconst (v := (0 : Int32)) hx hb dX7_dropSnapshot_31 (by decide) ?_
    refine lv_istore_n (lv' := [(3, .int (0 : Int32)), (2, .int o16), (0, .ref (ad 0)), (1, .int x1)]) hx hb dX7_dropSnapshot_32 rfl hl (by decide) rfl (fun ls hl => ?_)
    have hP : va_P g.1 az_cl (az_cM g ad (va_up (va_up (va_up V 0 u30) 1 o11.1) 2 o11.2)) _ := hP
    have hD : va_D A (az_cM g ad (va_up (va_up (va_up V 0 u30) 1 o11.1) 2 o11.2)) := hD
    exact hL33 az_fuel u30 o11.1 o11.2 o16 (0 : Int32) _ _ ls h hP hD hS (lv_sub hl [2, 3, 1, 0] rfl)
  · replace h := az_neg c5 h
    refine lv_iconst (v := (0 : Int32)) hx hb dX7_dropSnapshot_8 (by decide) ?_
    have hP : va_P g.1 az_cl (az_cM g ad (va_up (va_up (va_up V 0 (V 0)) 1 (V 1)) 2 o2.2)) _ := hP
    have hD : va_D A (az_cM g ad (va_up (va_up (va_up V 0 (V 0)) 1 (V 1)) 2 o2.2)) := hD
    rw [← Option.some.inj h]
    exact az_iret hx hb hr hlocks hK hP hD hS dX7_dropSnapshot_9

def FX7_getFrom (V : az_St) (x1 : Int32) (x2 : Int32) : Option (Int32 × (Nat → Int32)) := (FX7_isSnapshot x1).bind (fun o2 => if o2 = (0 : Int32) then (az_lt (upd (V 2) 1 (1 : Int32)) (fun u51 => if u51 1 ≤ (0 : Int32) then ((FX7_inSnapshot (va_up V 2 u51) x1 x2).bind (fun o69 => (FX7_ofBlock (va_up V 2 u51) o69 (2 : Int32)).bind (fun o73 => some (o73, u51)))) else (some ((0 : Int32), u51)))) else ((FX7_isKey x2).bind (fun o9 => if o9 = (0 : Int32) then (az_lt (upd (V 2) 1 (1 : Int32)) (fun u51 => if u51 1 ≤ (0 : Int32) then ((FX7_inSnapshot (va_up V 2 u51) x1 x2).bind (fun o69 => (FX7_ofBlock (va_up V 2 u51) o69 (2 : Int32)).bind (fun o73 => some (o73, u51)))) else (some ((0 : Int32), u51)))) else (if az_in ((864 : Int32) + x1) 1036 = true then if (V 0) ((864 : Int32) + x1).toNatClampNeg = (0 : Int32) then (az_lt (upd (V 2) 1 (2 : Int32)) (fun u51 => if u51 1 ≤ (0 : Int32) then ((FX7_inSnapshot (va_up V 2 u51) x1 x2).bind (fun o69 => (FX7_ofBlock (va_up V 2 u51) o69 (2 : Int32)).bind (fun o73 => some (o73, u51)))) else (some ((0 : Int32), u51)))) else ((FX7_inSnapshot V x1 x2).bind (fun o39 => if o39 = (-1 : Int32) then (az_lt (upd (V 2) 1 (3 : Int32)) (fun u51 => if u51 1 ≤ (0 : Int32) then ((FX7_inSnapshot (va_up V 2 u51) x1 x2).bind (fun o69 => (FX7_ofBlock (va_up V 2 u51) o69 (2 : Int32)).bind (fun o73 => some (o73, u51)))) else (some ((0 : Int32), u51)))) else (az_lt (upd (V 2) 1 (0 : Int32)) (fun u51 => if u51 1 ≤ (0 : Int32) then ((FX7_inSnapshot (va_up V 2 u51) x1 x2).bind (fun o69 => (FX7_ofBlock (va_up V 2 u51) o69 (2 : Int32)).bind (fun o73 => some (o73, u51)))) else (some ((0 : Int32), u51)))))) else none))))
theorem inX7_getFrom_RX7 : ∀ w ∈ wsX70, w ∈ wsX7_getFrom := az_inr [23, 24, 25, 26, 27] (by decide +kernel)
set_option maxHeartbeats 4000000 in
set_option maxRecDepth 100000 in
theorem kX7_getFrom (l : Launch) (g : az_G) (ad : Nat → Nat) (V : az_St) (x1 : Int32) (x2 : Int32) (o : Int32 × (Nat → Int32)) (h : FX7_getFrom V x1 x2 = some o) : az_I l yX7_getFrom wsX7_getFrom ({ frames := 2, cells := 0, slots := 0, locals := 45 } : Room) [.ref (ad 0), .int x1, .int x2] g (az_cM g ad V) o.1 (az_cM g ad (va_up V 2 o.2)) := by
  refine az_body (cc := cX7_getFrom) (maxL := 3) (ret := (some .int)) (Qc := fun A => az_QI g (az_cM g ad (va_up V 2 o.2)) o.1 A) (by decide +kernel) rfl (Nat.le_of_ble_eq_true rfl) ?_
  intro p e s m args below meth c A hx hb hr hts hown hml hlocks hA hK hP hD hS ls hl
  have hl : lv_has ls 3 [(0, .ref (ad 0)), (1, .int x1), (2, .int x2)] := hl
  unfold FX7_getFrom at h
  refine lv_aload_n hx hb dX7_getFrom_0 rfl (lv_at hl 0 rfl) ?_
  refine lv_iload_n hx hb dX7_getFrom_1 rfl (lv_at hl 1 rfl) ?_
  obtain ⟨o2, hc2, h⟩ := az_bnd h
  refine az_callS0 (As := [.int x1]) (rest := [.ref (ad 0)]) ⟨hx, hb, hml, hown, hts⟩ hl.1 (kX7_isSnapshot l g x1 o2 hc2) (va_cwS 1 hts gX7_getFrom_X7_isSnapshot rfl rfl rfl (by decide +kernel) ⟨Nat.le_of_ble_eq_true rfl, Nat.le_of_ble_eq_true rfl⟩) rfl hK hP hS hA (Nat.le_of_ble_eq_true rfl) dX7_getFrom_2 ⟨Nat.zero_le _, Nat.zero_le _⟩ rfl (fun H locs hP hS => ?_)
  refine lv_if_eq (tgt := 15) hx hb dX7_getFrom_5 (by decide) (fun c5 => ?_) (fun c5 => ?_)
  · replace h := az_pos c5 h
    refine lv_iconst (v := (1 : Int32)) hx hb dX7_getFrom_15 (by decide) ?_
    refine lv_goto (tgt := 51) hx hb dX7_getFrom_16 (by decide) ?_
    refine va_put (D := g.1) (ci := 7) (v := .int (1 : Int32)) (ty := .int) (C := RX7) (T := TX7) (N := 5) hx hb hts inX7_getFrom_RX7 tyX7 tyX7_ok nmX7 hown hK hP hD hS 0 rfl rfl 3 (Nat.le_of_ble_eq_true rfl) (hts _ (List.mem_of_getElem? (i := 2) rfl)) (fun _ h9 => h9) rfl (by decide +kernel) rfl rfl (Nat.le_of_ble_eq_true rfl) dX7_getFrom_51 (fun H locs hP hD hS => ?_)
    obtain ⟨u51, e51⟩ : ∃ w : Nat → Int32, w = upd (V 2) 1 (1 : Int32) := ⟨_, rfl⟩
    have hP : va_P g.1 az_cl (az_cM g ad (va_up V 2 u51)) H := by rw [e51]; exact hP
    have hD : va_D A (az_cM g ad (va_up V 2 u51)) := by rw [e51]; exact hD
    replace h := az_let e51 h
    refine lv_aload_n hx hb dX7_getFrom_54 rfl (lv_at hl 0 rfl) ?_
    refine va_get (D := g.1) (ci := 7) (v := .int (u51 1)) (C := RX7) (T := TX7) (N := 5) hx hb hts inX7_getFrom_RX7 hown hK hP 0 rfl rfl 3 (Nat.le_of_ble_eq_true rfl) (hts _ (List.mem_of_getElem? (i := 2) rfl)) (fun _ h9 => h9) rfl dX7_getFrom_55 ?_
    refine lv_if_le (tgt := 65) hx hb dX7_getFrom_58 (by decide) (fun c58 => ?_) (fun c58 => ?_)
    · replace h := az_pos c58 h
      refine lv_aload_n hx hb dX7_getFrom_65 rfl (lv_at hl 0 rfl) ?_
      refine lv_aload_n hx hb dX7_getFrom_66 rfl (lv_at hl 0 rfl) ?_
      refine lv_iload_n hx hb dX7_getFrom_67 rfl (lv_at hl 1 rfl) ?_
      refine lv_iload_n hx hb dX7_getFrom_68 rfl (lv_at hl 2 rfl) ?_
      obtain ⟨o69, hc69, h⟩ := az_bnd h
      refine az_callVi (w2 := az_cM g ad (va_up V 2 u51)) (As := [.int x1, .int x2]) (rest := [.ref (ad 0)]) ⟨hx, hb, hml, hown, hts⟩ hl.1 (kX7_inSnapshot l g ad (va_up V 2 u51) x1 x2 o69 hc69) (cwV 2 hts gX7_getFrom_X7_inSnapshot rfl rfl rfl (by decide +kernel) ⟨Nat.le_of_ble_eq_true rfl, Nat.le_of_ble_eq_true rfl⟩) rfl hK hP hD hS hA [0, 1, 2, 3] [] [0, 1, 2, 3] rfl rfl rfl rfl rfl (by decide) rfl rfl rfl 0 rfl rfl rfl (Nat.le_of_ble_eq_true rfl) dX7_getFrom_69 ⟨Nat.zero_le _, Nat.zero_le _⟩ rfl (fun H locs hP hD hS => ?_)
      refine lv_iconst (v := (2 : Int32)) hx hb dX7_getFrom_72 (by decide) ?_
      obtain ⟨o73, hc73, h⟩ := az_bnd h
      refine az_callVi (w2 := az_cM g ad (va_up V 2 u51)) (As := [.int o69, .int (2 : Int32)]) (rest := []) ⟨hx, hb, hml, hown, hts⟩ hl.1 (kX7_ofBlock l g ad (va_up V 2 u51) o69 (2 : Int32) o73 hc73) (cwV 2 hts gX7_getFrom_X7_ofBlock rfl rfl rfl (by decide +kernel) ⟨Nat.le_of_ble_eq_true rfl, Nat.le_of_ble_eq_true rfl⟩) rfl hK hP hD hS hA [0, 1, 2, 3] [] [0, 1, 2, 3] rfl rfl rfl rfl rfl (by decide) rfl rfl rfl 0 rfl rfl rfl (Nat.le_of_ble_eq_true rfl) dX7_getFrom_73 ⟨Nat.zero_le _, Nat.zero_le _⟩ rfl (fun H locs hP hD hS => ?_)
      have hP : va_P g.1 az_cl (az_cM g ad (va_up V 2 u51)) _ := hP
      have hD : va_D A (az_cM g ad (va_up V 2 u51)) := hD
      rw [← Option.some.inj h]
      exact az_iret hx hb hr hlocks hK hP hD hS dX7_getFrom_76
    · replace h := az_neg c58 h
      refine lv_iconst (v := (0 : Int32)) hx hb dX7_getFrom_61 (by decide) ?_
      refine lv_goto (tgt := 76) hx hb dX7_getFrom_62 (by decide) ?_
      have hP : va_P g.1 az_cl (az_cM g ad (va_up V 2 u51)) _ := hP
      have hD : va_D A (az_cM g ad (va_up V 2 u51)) := hD
      rw [← Option.some.inj h]
      exact az_iret hx hb hr hlocks hK hP hD hS dX7_getFrom_76
  · replace h := az_neg c5 h
    refine lv_iload_n hx hb dX7_getFrom_8 rfl (lv_at hl 2 rfl) ?_
    obtain ⟨o9, hc9, h⟩ := az_bnd h
    refine az_callS0 (As := [.int x2]) (rest := [.ref (ad 0)]) ⟨hx, hb, hml, hown, hts⟩ hl.1 (kX7_isKey l g x2 o9 hc9) (va_cwS 1 hts gX7_getFrom_X7_isKey rfl rfl rfl (by decide +kernel) ⟨Nat.le_of_ble_eq_true rfl, Nat.le_of_ble_eq_true rfl⟩) rfl hK hP hS hA (Nat.le_of_ble_eq_true rfl) dX7_getFrom_9 ⟨Nat.zero_le _, Nat.zero_le _⟩ rfl (fun H locs hP hS => ?_)
    refine lv_if_ne (tgt := 19) hx hb dX7_getFrom_12 (by decide) (fun c12 => ?_) (fun c12 => ?_)
    · replace h := az_neg c12 h
      refine lv_aload_n hx hb dX7_getFrom_19 rfl (lv_at hl 0 rfl) ?_
      refine va_get (D := g.1) (ci := 7) (v := .ref (ad 1)) (C := RX7) (T := TX7) (N := 5) hx hb hts inX7_getFrom_RX7 hown hK hP 0 rfl rfl 0 (Nat.le_of_ble_eq_true rfl) (hts _ (List.mem_of_getElem? (i := 1) rfl)) (fun _ h9 => h9) rfl dX7_getFrom_20 ?_
      refine lv_sipush (v := (864 : Int32)) hx hb dX7_getFrom_23 (by decide) ?_
      refine lv_iload_n hx hb dX7_getFrom_26 rfl (lv_at hl 1 rfl) ?_
      refine lv_iadd hx hb dX7_getFrom_27 ?_
      obtain ⟨i28, h⟩ := az_ite h
      refine va_iald (D := g.1) (f := (V 0)) hx hb hK hP 1 0 rfl rfl (az_vin i28) dX7_getFrom_28 ?_
      refine lv_if_ne (tgt := 36) hx hb dX7_getFrom_29 (by decide) (fun c29 => ?_) (fun c29 => ?_)
      · replace h := az_neg c29 h
        refine lv_aload_n hx hb dX7_getFrom_36 rfl (lv_at hl 0 rfl) ?_
        refine lv_iload_n hx hb dX7_getFrom_37 rfl (lv_at hl 1 rfl) ?_
        refine lv_iload_n hx hb dX7_getFrom_38 rfl (lv_at hl 2 rfl) ?_
        obtain ⟨o39, hc39, h⟩ := az_bnd h
        refine az_callVi (w2 := az_cM g ad V) (As := [.int x1, .int x2]) (rest := [.ref (ad 0)]) ⟨hx, hb, hml, hown, hts⟩ hl.1 (kX7_inSnapshot l g ad V x1 x2 o39 hc39) (cwV 2 hts gX7_getFrom_X7_inSnapshot rfl rfl rfl (by decide +kernel) ⟨Nat.le_of_ble_eq_true rfl, Nat.le_of_ble_eq_true rfl⟩) rfl hK hP hD hS hA [0, 1, 2, 3] [] [0, 1, 2, 3] rfl rfl rfl rfl rfl (by decide) rfl rfl rfl 0 rfl rfl rfl (Nat.le_of_ble_eq_true rfl) dX7_getFrom_39 ⟨Nat.zero_le _, Nat.zero_le _⟩ rfl (fun H locs hP hD hS => ?_)
        refine lv_iconst (v := (-1 : Int32)) hx hb dX7_getFrom_42 (by decide) ?_
        refine lv_icmp_ne (tgt := 50) hx hb dX7_getFrom_43 (by decide) (fun c43 => ?_) (fun c43 => ?_)
        · replace h := az_neg c43 h
          refine lv_iconst (v := (0 : Int32)) hx hb dX7_getFrom_50 (by decide) ?_
          refine va_put (D := g.1) (ci := 7) (v := .int (0 : Int32)) (ty := .int) (C := RX7) (T := TX7) (N := 5) hx hb hts inX7_getFrom_RX7 tyX7 tyX7_ok nmX7 hown hK hP hD hS 0 rfl rfl 3 (Nat.le_of_ble_eq_true rfl) (hts _ (List.mem_of_getElem? (i := 2) rfl)) (fun _ h9 => h9) rfl (by decide +kernel) rfl rfl (Nat.le_of_ble_eq_true rfl) dX7_getFrom_51 (fun H locs hP hD hS => ?_)
          obtain ⟨u51, e51⟩ : ∃ w : Nat → Int32, w = upd (V 2) 1 (0 : Int32) := ⟨_, rfl⟩
          have hP : va_P g.1 az_cl (az_cM g ad (va_up V 2 u51)) H := by rw [e51]; exact hP
          have hD : va_D A (az_cM g ad (va_up V 2 u51)) := by rw [e51]; exact hD
          replace h := az_let e51 h
          refine lv_aload_n hx hb dX7_getFrom_54 rfl (lv_at hl 0 rfl) ?_
          refine va_get (D := g.1) (ci := 7) (v := .int (u51 1)) (C := RX7) (T := TX7) (N := 5) hx hb hts inX7_getFrom_RX7 hown hK hP 0 rfl rfl 3 (Nat.le_of_ble_eq_true rfl) (hts _ (List.mem_of_getElem? (i := 2) rfl)) (fun _ h9 => h9) rfl dX7_getFrom_55 ?_
          refine lv_if_le (tgt := 65) hx hb dX7_getFrom_58 (by decide) (fun c58 => ?_) (fun c58 => ?_)
          · replace h := az_pos c58 h
            refine lv_aload_n hx hb dX7_getFrom_65 rfl (lv_at hl 0 rfl) ?_
            refine lv_aload_n hx hb dX7_getFrom_66 rfl (lv_at hl 0 rfl) ?_
            refine lv_iload_n hx hb dX7_getFrom_67 rfl (lv_at hl 1 rfl) ?_
            refine lv_iload_n hx hb dX7_getFrom_68 rfl (lv_at hl 2 rfl) ?_
            obtain ⟨o69, hc69, h⟩ := az_bnd h
            refine az_callVi (w2 := az_cM g ad (va_up V 2 u51)) (As := [.int x1, .int x2]) (rest := [.ref (ad 0)]) ⟨hx, hb, hml, hown, hts⟩ hl.1 (kX7_inSnapshot l g ad (va_up V 2 u51) x1 x2 o69 hc69) (cwV 2 hts gX7_getFrom_X7_inSnapshot rfl rfl rfl (by decide +kernel) ⟨Nat.le_of_ble_eq_true rfl, Nat.le_of_ble_eq_true rfl⟩) rfl hK hP hD hS hA [0, 1, 2, 3] [] [0, 1, 2, 3] rfl rfl rfl rfl rfl (by decide) rfl rfl rfl 0 rfl rfl rfl (Nat.le_of_ble_eq_true rfl) dX7_getFrom_69 ⟨Nat.zero_le _, Nat.zero_le _⟩ rfl (fun H locs hP hD hS => ?_)
            refine lv_iconst (v := (2 : Int32)) hx hb dX7_getFrom_72 (by decide) ?_
            obtain ⟨o73, hc73, h⟩ := az_bnd h
            refine az_callVi (w2 := az_cM g ad (va_up V 2 u51)) (As := [.int o69, .int (2 : Int32)]) (rest := []) ⟨hx, hb, hml, hown, hts⟩ hl.1 (kX7_ofBlock l g ad (va_up V 2 u51) o69 (2 : Int32) o73 hc73) (cwV 2 hts gX7_getFrom_X7_ofBlock rfl rfl rfl (by decide +kernel) ⟨Nat.le_of_ble_eq_true rfl, Nat.le_of_ble_eq_true rfl⟩) rfl hK hP hD hS hA [0, 1, 2, 3] [] [0, 1, 2, 3] rfl rfl rfl rfl rfl (by decide) rfl rfl rfl 0 rfl rfl rfl (Nat.le_of_ble_eq_true rfl) dX7_getFrom_73 ⟨Nat.zero_le _, Nat.zero_le _⟩ rfl (fun H locs hP hD hS => ?_)
            have hP : va_P g.1 az_cl (az_cM g ad (va_up V 2 u51)) _ := hP
            have hD : va_D A (az_cM g ad (va_up V 2 u51)) := hD
            rw [← Option.some.inj h]
            exact az_iret hx hb hr hlocks hK hP hD hS dX7_getFrom_76
          · replace h := az_neg c58 h
            refine lv_iconst (v := (0 : Int32)) hx hb dX7_getFrom_61 (by decide) ?_
            refine lv_goto (tgt := 76) hx hb dX7_getFrom_62 (by decide) ?_
            have hP : va_P g.1 az_cl (az_cM g ad (va_up V 2 u51)) _ := hP
            have hD : va_D A (az_cM g ad (va_up V 2 u51)) := hD
            rw [← Option.some.inj h]
            exact az_iret hx hb hr hlocks hK hP hD hS dX7_getFrom_76
        · replace h := az_pos c43 h
          refine lv_iconst (v := (3 : Int32)) hx hb dX7_getFrom_46 (by decide) ?_
          refine lv_goto (tgt := 51) hx hb dX7_getFrom_47 (by decide) ?_
          refine va_put (D := g.1) (ci := 7) (v := .int (3 : Int32)) (ty := .int) (C := RX7) (T := TX7) (N := 5) hx hb hts inX7_getFrom_RX7 tyX7 tyX7_ok nmX7 hown hK hP hD hS 0 rfl rfl 3 (Nat.le_of_ble_eq_true rfl) (hts _ (List.mem_of_getElem? (i := 2) rfl)) (fun _ h9 => h9) rfl (by decide +kernel) rfl rfl (Nat.le_of_ble_eq_true rfl) dX7_getFrom_51 (fun H locs hP hD hS => ?_)
          obtain ⟨u51, e51⟩ : ∃ w : Nat → Int32, w = upd (V 2) 1 (3 : Int32) := ⟨_, rfl⟩
          have hP : va_P g.1 az_cl (az_cM g ad (va_up V 2 u51)) H := by rw [e51]; exact hP
          have hD : va_D A (az_cM g ad (va_up V 2 u51)) := by rw [e51]; exact hD
          replace h := az_let e51 h
          refine lv_aload_n hx hb dX7_getFrom_54 rfl (lv_at hl 0 rfl) ?_
          refine va_get (D := g.1) (ci := 7) (v := .int (u51 1)) (C := RX7) (T := TX7) (N := 5) hx hb hts inX7_getFrom_RX7 hown hK hP 0 rfl rfl 3 (Nat.le_of_ble_eq_true rfl) (hts _ (List.mem_of_getElem? (i := 2) rfl)) (fun _ h9 => h9) rfl dX7_getFrom_55 ?_
          refine lv_if_le (tgt := 65) hx hb dX7_getFrom_58 (by decide) (fun c58 => ?_) (fun c58 => ?_)
          · replace h := az_pos c58 h
            refine lv_aload_n hx hb dX7_getFrom_65 rfl (lv_at hl 0 rfl) ?_
            refine lv_aload_n hx hb dX7_getFrom_66 rfl (lv_at hl 0 rfl) ?_
            refine lv_iload_n hx hb dX7_getFrom_67 rfl (lv_at hl 1 rfl) ?_
            refine lv_iload_n hx hb dX7_getFrom_68 rfl (lv_at hl 2 rfl) ?_
            obtain ⟨o69, hc69, h⟩ := az_bnd h
            refine az_callVi (w2 := az_cM g ad (va_up V 2 u51)) (As := [.int x1, .int x2]) (rest := [.ref (ad 0)]) ⟨hx, hb, hml, hown, hts⟩ hl.1 (kX7_inSnapshot l g ad (va_up V 2 u51) x1 x2 o69 hc69) (cwV 2 hts gX7_getFrom_X7_inSnapshot rfl rfl rfl (by decide +kernel) ⟨Nat.le_of_ble_eq_true rfl, Nat.le_of_ble_eq_true rfl⟩) rfl hK hP hD hS hA [0, 1, 2, 3] [] [0, 1, 2, 3] rfl rfl rfl rfl rfl (by decide) rfl rfl rfl 0 rfl rfl rfl (Nat.le_of_ble_eq_true rfl) dX7_getFrom_69 ⟨Nat.zero_le _, Nat.zero_le _⟩ rfl (fun H locs hP hD hS => ?_)
            refine lv_iconst (v := (2 : Int32)) hx hb dX7_getFrom_72 (by decide) ?_
            obtain ⟨o73, hc73, h⟩ := az_bnd h
            refine az_callVi (w2 := az_cM g ad (va_up V 2 u51)) (As := [.int o69, .int (2 : Int32)]) (rest := []) ⟨hx, hb, hml, hown, hts⟩ hl.1 (kX7_ofBlock l g ad (va_up V 2 u51) o69 (2 : Int32) o73 hc73) (cwV 2 hts gX7_getFrom_X7_ofBlock rfl rfl rfl (by decide +kernel) ⟨Nat.le_of_ble_eq_true rfl, Nat.le_of_ble_eq_true rfl⟩) rfl hK hP hD hS hA [0, 1, 2, 3] [] [0, 1, 2, 3] rfl rfl rfl rfl rfl (by decide) rfl rfl rfl 0 rfl rfl rfl (Nat.le_of_ble_eq_true rfl) dX7_getFrom_73 ⟨Nat.zero_le _, Nat.zero_le _⟩ rfl (fun H locs hP hD hS => ?_)
            have hP : va_P g.1 az_cl (az_cM g ad (va_up V 2 u51)) _ := hP
            have hD : va_D A (az_cM g ad (va_up V 2 u51)) := hD
            rw [← Option.some.inj h]
            exact az_iret hx hb hr hlocks hK hP hD hS dX7_getFrom_76
          · replace h := az_neg c58 h
            refine lv_iconst (v := (0 : Int32)) hx hb dX7_getFrom_61 (by decide) ?_
            refine lv_goto (tgt := 76) hx hb dX7_getFrom_62 (by decide) ?_
            have hP : va_P g.1 az_cl (az_cM g ad (va_up V 2 u51)) _ := hP
            have hD : va_D A (az_cM g ad (va_up V 2 u51)) := hD
            rw [← Option.some.inj h]
            exact az_iret hx hb hr hlocks hK hP hD hS dX7_getFrom_76
      · replace h := az_pos c29 h
        refine lv_iconst (v := (2 : Int32)) hx hb dX7_getFrom_32 (by decide) ?_
        refine lv_goto (tgt := 51) hx hb dX7_getFrom_33 (by decide) ?_
        refine va_put (D := g.1) (ci := 7) (v := .int (2 : Int32)) (ty := .int) (C := RX7) (T := TX7) (N := 5) hx hb hts inX7_getFrom_RX7 tyX7 tyX7_ok nmX7 hown hK hP hD hS 0 rfl rfl 3 (Nat.le_of_ble_eq_true rfl) (hts _ (List.mem_of_getElem? (i := 2) rfl)) (fun _ h9 => h9) rfl (by decide +kernel) rfl rfl (Nat.le_of_ble_eq_true rfl) dX7_getFrom_51 (fun H locs hP hD hS => ?_)
        obtain ⟨u51, e51⟩ : ∃ w : Nat → Int32, w = upd (V 2) 1 (2 : Int32) := ⟨_, rfl⟩
        have hP : va_P g.1 az_cl (az_cM g ad (va_up V 2 u51)) H := by rw [e51]; exact hP
        have hD : va_D A (az_cM g ad (va_up V 2 u51)) := by rw [e51]; exact hD
        replace h := az_let e51 h
        refine lv_aload_n hx hb dX7_getFrom_54 rfl (lv_at hl 0 rfl) ?_
        refine va_get (D := g.1) (ci := 7) (v := .int (u51 1)) (C := RX7) (T := TX7) (N := 5) hx hb hts inX7_getFrom_RX7 hown hK hP 0 rfl rfl 3 (Nat.le_of_ble_eq_true rfl) (hts _ (List.mem_of_getElem? (i := 2) rfl)) (fun _ h9 => h9) rfl dX7_getFrom_55 ?_
        refine lv_if_le (tgt := 65) hx hb dX7_getFrom_58 (by decide) (fun c58 => ?_) (fun c58 => ?_)
        · replace h := az_pos c58 h
          refine lv_aload_n hx hb dX7_getFrom_65 rfl (lv_at hl 0 rfl) ?_
          refine lv_aload_n hx hb dX7_getFrom_66 rfl (lv_at hl 0 rfl) ?_
          refine lv_iload_n hx hb dX7_getFrom_67 rfl (lv_at hl 1 rfl) ?_
          refine lv_iload_n hx hb dX7_getFrom_68 rfl (lv_at hl 2 rfl) ?_
          obtain ⟨o69, hc69, h⟩ := az_bnd h
          refine az_callVi (w2 := az_cM g ad (va_up V 2 u51)) (As := [.int x1, .int x2]) (rest := [.ref (ad 0)]) ⟨hx, hb, hml, hown, hts⟩ hl.1 (kX7_inSnapshot l g ad (va_up V 2 u51) x1 x2 o69 hc69) (cwV 2 hts gX7_getFrom_X7_inSnapshot rfl rfl rfl (by decide +kernel) ⟨Nat.le_of_ble_eq_true rfl, Nat.le_of_ble_eq_true rfl⟩) rfl hK hP hD hS hA [0, 1, 2, 3] [] [0, 1, 2, 3] rfl rfl rfl rfl rfl (by decide) rfl rfl rfl 0 rfl rfl rfl (Nat.le_of_ble_eq_true rfl) dX7_getFrom_69 ⟨Nat.zero_le _, Nat.zero_le _⟩ rfl (fun H locs hP hD hS => ?_)
          refine lv_iconst (v := (2 : Int32)) hx hb dX7_getFrom_72 (by decide) ?_
          obtain ⟨o73, hc73, h⟩ := az_bnd h
          refine az_callVi (w2 := az_cM g ad (va_up V 2 u51)) (As := [.int o69, .int (2 : Int32)]) (rest := []) ⟨hx, hb, hml, hown, hts⟩ hl.1 (kX7_ofBlock l g ad (va_up V 2 u51) o69 (2 : Int32) o73 hc73) (cwV 2 hts gX7_getFrom_X7_ofBlock rfl rfl rfl (by decide +kernel) ⟨Nat.le_of_ble_eq_true rfl, Nat.le_of_ble_eq_true rfl⟩) rfl hK hP hD hS hA [0, 1, 2, 3] [] [0, 1, 2, 3] rfl rfl rfl rfl rfl (by decide) rfl rfl rfl 0 rfl rfl rfl (Nat.le_of_ble_eq_true rfl) dX7_getFrom_73 ⟨Nat.zero_le _, Nat.zero_le _⟩ rfl (fun H locs hP hD hS => ?_)
          have hP : va_P g.1 az_cl (az_cM g ad (va_up V 2 u51)) _ := hP
          have hD : va_D A (az_cM g ad (va_up V 2 u51)) := hD
          rw [← Option.some.inj h]
          exact az_iret hx hb hr hlocks hK hP hD hS dX7_getFrom_76
        · replace h := az_neg c58 h
          refine lv_iconst (v := (0 : Int32)) hx hb dX7_getFrom_61 (by decide) ?_
          refine lv_goto (tgt := 76) hx hb dX7_getFrom_62 (by decide) ?_
          have hP : va_P g.1 az_cl (az_cM g ad (va_up V 2 u51)) _ := hP
          have hD : va_D A (az_cM g ad (va_up V 2 u51)) := hD
          rw [← Option.some.inj h]
          exact az_iret hx hb hr hlocks hK hP hD hS dX7_getFrom_76
    · replace h := az_pos c12 h
      refine lv_iconst (v := (1 : Int32)) hx hb dX7_getFrom_15 (by decide) ?_
      refine lv_goto (tgt := 51) hx hb dX7_getFrom_16 (by decide) ?_
      refine va_put (D := g.1) (ci := 7) (v := .int (1 : Int32)) (ty := .int) (C := RX7) (T := TX7) (N := 5) hx hb hts inX7_getFrom_RX7 tyX7 tyX7_ok nmX7 hown hK hP hD hS 0 rfl rfl 3 (Nat.le_of_ble_eq_true rfl) (hts _ (List.mem_of_getElem? (i := 2) rfl)) (fun _ h9 => h9) rfl (by decide +kernel) rfl rfl (Nat.le_of_ble_eq_true rfl) dX7_getFrom_51 (fun H locs hP hD hS => ?_)
      obtain ⟨u51, e51⟩ : ∃ w : Nat → Int32, w = upd (V 2) 1 (1 : Int32) := ⟨_, rfl⟩
      have hP : va_P g.1 az_cl (az_cM g ad (va_up V 2 u51)) H := by rw [e51]; exact hP
      have hD : va_D A (az_cM g ad (va_up V 2 u51)) := by rw [e51]; exact hD
      replace h := az_let e51 h
      refine lv_aload_n hx hb dX7_getFrom_54 rfl (lv_at hl 0 rfl) ?_
      refine va_get (D := g.1) (ci := 7) (v := .int (u51 1)) (C := RX7) (T := TX7) (N := 5) hx hb hts inX7_getFrom_RX7 hown hK hP 0 rfl rfl 3 (Nat.le_of_ble_eq_true rfl) (hts _ (List.mem_of_getElem? (i := 2) rfl)) (fun _ h9 => h9) rfl dX7_getFrom_55 ?_
      refine lv_if_le (tgt := 65) hx hb dX7_getFrom_58 (by decide) (fun c58 => ?_) (fun c58 => ?_)
      · replace h := az_pos c58 h
        refine lv_aload_n hx hb dX7_getFrom_65 rfl (lv_at hl 0 rfl) ?_
        refine lv_aload_n hx hb dX7_getFrom_66 rfl (lv_at hl 0 rfl) ?_
        refine lv_iload_n hx hb dX7_getFrom_67 rfl (lv_at hl 1 rfl) ?_
        refine lv_iload_n hx hb dX7_getFrom_68 rfl (lv_at hl 2 rfl) ?_
        obtain ⟨o69, hc69, h⟩ := az_bnd h
        refine az_callVi (w2 := az_cM g ad (va_up V 2 u51)) (As := [.int x1, .int x2]) (rest := [.ref (ad 0)]) ⟨hx, hb, hml, hown, hts⟩ hl.1 (kX7_inSnapshot l g ad (va_up V 2 u51) x1 x2 o69 hc69) (cwV 2 hts gX7_getFrom_X7_inSnapshot rfl rfl rfl (by decide +kernel) ⟨Nat.le_of_ble_eq_true rfl, Nat.le_of_ble_eq_true rfl⟩) rfl hK hP hD hS hA [0, 1, 2, 3] [] [0, 1, 2, 3] rfl rfl rfl rfl rfl (by decide) rfl rfl rfl 0 rfl rfl rfl (Nat.le_of_ble_eq_true rfl) dX7_getFrom_69 ⟨Nat.zero_le _, Nat.zero_le _⟩ rfl (fun H locs hP hD hS => ?_)
        refine lv_iconst (v := (2 : Int32)) hx hb dX7_getFrom_72 (by decide) ?_
        obtain ⟨o73, hc73, h⟩ := az_bnd h
        refine az_callVi (w2 := az_cM g ad (va_up V 2 u51)) (As := [.int o69, .int (2 : Int32)]) (rest := []) ⟨hx, hb, hml, hown, hts⟩ hl.1 (kX7_ofBlock l g ad (va_up V 2 u51) o69 (2 : Int32) o73 hc73) (cwV 2 hts gX7_getFrom_X7_ofBlock rfl rfl rfl (by decide +kernel) ⟨Nat.le_of_ble_eq_true rfl, Nat.le_of_ble_eq_true rfl⟩) rfl hK hP hD hS hA [0, 1, 2, 3] [] [0, 1, 2, 3] rfl rfl rfl rfl rfl (by decide) rfl rfl rfl 0 rfl rfl rfl (Nat.le_of_ble_eq_true rfl) dX7_getFrom_73 ⟨Nat.zero_le _, Nat.zero_le _⟩ rfl (fun H locs hP hD hS => ?_)
        have hP : va_P g.1 az_cl (az_cM g ad (va_up V 2 u51)) _ := hP
        have hD : va_D A (az_cM g ad (va_up V 2 u51)) := hD
        rw [← Option.some.inj h]
        exact az_iret hx hb hr hlocks hK hP hD hS dX7_getFrom_76
      · replace h := az_neg c58 h
        refine lv_iconst (v := (0 : Int32)) hx hb dX7_getFrom_61 (by decide) ?_
        refine lv_goto (tgt := 76) hx hb dX7_getFrom_62 (by decide) ?_
        have hP : va_P g.1 az_cl (az_cM g ad (va_up V 2 u51)) _ := hP
        have hD : va_D A (az_cM g ad (va_up V 2 u51)) := hD
        rw [← Option.some.inj h]
        exact az_iret hx hb hr hlocks hK hP hD hS dX7_getFrom_76

def FX7_changedSince_L14 : Nat → az_St → Int32 → (Nat → Int32) → Int32 → Int32 → Option (Int32 × (Nat → Int32))
  | 0, _, _, _, _, _ => none
  | n + 1, V, x1, wV2, y2, y3 => if (24 : Int32) ≤ y3 then (some (y2, wV2)) else ((FX7_inSnapshot (va_up V 2 wV2) x1 y3).bind (fun o24 => if az_in ((840 : Int32) + y3) 1036 = true then if o24 = (V 0) ((840 : Int32) + y3).toNatClampNeg then (FX7_changedSince_L14 n V x1 wV2 (y2 + (0 : Int32)) (y3 + (1 : Int32))) else (FX7_changedSince_L14 n V x1 wV2 (y2 + (1 : Int32)) (y3 + (1 : Int32))) else none))
theorem FX7_changedSince_L14_s (n : Nat) (V : az_St) (x1 : Int32) (wV2 : Nat → Int32) (y2 : Int32) (y3 : Int32) : FX7_changedSince_L14 (n + 1) V x1 wV2 y2 y3 = (if (24 : Int32) ≤ y3 then (some (y2, wV2)) else ((FX7_inSnapshot (va_up V 2 wV2) x1 y3).bind (fun o24 => if az_in ((840 : Int32) + y3) 1036 = true then if o24 = (V 0) ((840 : Int32) + y3).toNatClampNeg then (FX7_changedSince_L14 n V x1 wV2 (y2 + (0 : Int32)) (y3 + (1 : Int32))) else (FX7_changedSince_L14 n V x1 wV2 (y2 + (1 : Int32)) (y3 + (1 : Int32))) else none))) := rfl
def FX7_changedSince (V : az_St) (x1 : Int32) : Option (Int32 × (Nat → Int32)) := (FX7_lacks V x1).bind (fun o2 => if o2.1 = (0 : Int32) then (FX7_changedSince_L14 az_fuel V x1 o2.2 (0 : Int32) (0 : Int32)) else (some ((0 : Int32), o2.2)))
theorem inX7_changedSince_RX7 : ∀ w ∈ wsX70, w ∈ wsX7_changedSince := az_inr [19, 20, 21, 22, 23] (by decide +kernel)
set_option maxHeartbeats 4000000 in
set_option maxRecDepth 100000 in
theorem kX7_changedSince (l : Launch) (g : az_G) (ad : Nat → Nat) (V : az_St) (x1 : Int32) (o : Int32 × (Nat → Int32)) (h : FX7_changedSince V x1 = some o) : az_I l yX7_changedSince wsX7_changedSince ({ frames := 3, cells := 0, slots := 0, locals := 66 } : Room) [.ref (ad 0), .int x1] g (az_cM g ad V) o.1 (az_cM g ad (va_up V 2 o.2)) := by
  refine az_body (cc := cX7_changedSince) (maxL := 4) (ret := (some .int)) (Qc := fun A => az_QI g (az_cM g ad (va_up V 2 o.2)) o.1 A) (by decide +kernel) rfl (Nat.le_of_ble_eq_true rfl) ?_
  intro p e s m args below meth c A hx hb hr hts hown hml hlocks hA hK hP hD hS ls hl
  have hl : lv_has ls 4 [(0, .ref (ad 0)), (1, .int x1)] := hl
  unfold FX7_changedSince at h
  have hL14 : ∀ (n : Nat) (wV2 : Nat → Int32) (y2 : Int32) (y3 : Int32) (H : Heap) (locs : List Loc) (ls : Array Slot), FX7_changedSince_L14 n V x1 wV2 y2 y3 = some o → va_P g.1 az_cl (az_cM g ad (va_up V 2 wV2)) H → va_D A (az_cM g ad (va_up V 2 wV2)) → va_S A s.heap H locs → lv_has ls 4 [(0, .ref (ad 0)), (1, .int x1), (2, .int y2), (3, .int y3)] → W p l e ({ frames := 3, cells := 0, slots := 0, locals := 66 } : Room) s m args below meth c H locs 0 0 (MQ below (az_QI g (az_cM g ad (va_up V 2 o.2)) o.1 A) args s 0 0 A) (F0 m 14 ls []) := by
    intro n
    induction n with
    | zero => intro wV2 y2 y3 H locs ls h; exact az_non h
    | succ n ih =>
      intro wV2 y2 y3 H locs ls h hP hD hS hl
      rw [FX7_changedSince_L14_s] at h
      refine lv_iload_n hx hb dX7_changedSince_14 rfl (lv_at hl 3 rfl) ?_
      refine lv_bipush (v := (24 : Int32)) hx hb dX7_changedSince_15 (by decide) ?_
      refine lv_icmp_ge (tgt := 53) hx hb dX7_changedSince_17 (by decide) (fun c17 => ?_) (fun c17 => ?_)
      · replace h := az_pos c17 h
        refine lv_iload_n hx hb dX7_changedSince_53 rfl (lv_at hl 2 rfl) ?_
        have hP : va_P g.1 az_cl (az_cM g ad (va_up V 2 wV2)) _ := hP
        have hD : va_D A (az_cM g ad (va_up V 2 wV2)) := hD
        rw [← Option.some.inj h]
        exact az_iret hx hb hr hlocks hK hP hD hS dX7_changedSince_54
      · replace h := az_neg c17 h
        refine lv_iload_n hx hb dX7_changedSince_20 rfl (lv_at hl 2 rfl) ?_
        refine lv_aload_n hx hb dX7_changedSince_21 rfl (lv_at hl 0 rfl) ?_
        refine lv_iload_n hx hb dX7_changedSince_22 rfl (lv_at hl 1 rfl) ?_
        refine lv_iload_n hx hb dX7_changedSince_23 rfl (lv_at hl 3 rfl) ?_
        obtain ⟨o24, hc24, h⟩ := az_bnd h
        refine az_callVi (w2 := az_cM g ad (va_up V 2 wV2)) (As := [.int x1, .int y3]) (rest := [.int y2]) ⟨hx, hb, hml, hown, hts⟩ hl.1 (kX7_inSnapshot l g ad (va_up V 2 wV2) x1 y3 o24 hc24) (cwV 2 hts gX7_changedSince_X7_inSnapshot rfl rfl rfl (by decide +kernel) ⟨Nat.le_of_ble_eq_true rfl, Nat.le_of_ble_eq_true rfl⟩) rfl hK hP hD hS hA [0, 1, 2, 3] [] [0, 1, 2, 3] rfl rfl rfl rfl rfl (by decide) rfl rfl rfl 0 rfl rfl rfl (Nat.le_of_ble_eq_true rfl) dX7_changedSince_24 ⟨Nat.zero_le _, Nat.zero_le _⟩ rfl (fun H locs hP hD hS => ?_)
        refine lv_aload_n hx hb dX7_changedSince_27 rfl (lv_at hl 0 rfl) ?_
        refine va_get (D := g.1) (ci := 7) (v := .ref (ad 1)) (C := RX7) (T := TX7) (N := 5) hx hb hts inX7_changedSince_RX7 hown hK hP 0 rfl rfl 0 (Nat.le_of_ble_eq_true rfl) (hts _ (List.mem_of_getElem? (i := 1) rfl)) (fun _ h9 => h9) rfl dX7_changedSince_28 ?_
        refine lv_sipush (v := (840 : Int32)) hx hb dX7_changedSince_31 (by decide) ?_
        refine lv_iload_n hx hb dX7_changedSince_34 rfl (lv_at hl 3 rfl) ?_
        refine lv_iadd hx hb dX7_changedSince_35 ?_
        obtain ⟨i36, h⟩ := az_ite h
        refine va_iald (D := g.1) (f := (V 0)) hx hb hK hP 1 0 rfl rfl (az_vin i36) dX7_changedSince_36 ?_
        refine lv_icmp_ne (tgt := 44) hx hb dX7_changedSince_37 (by decide) (fun c37 => ?_) (fun c37 => ?_)
        · replace h := az_neg c37 h
          refine lv_iconst (v := (1 : Int32)) hx hb dX7_changedSince_44 (by decide) ?_
          refine lv_iadd hx hb dX7_changedSince_45 ?_
          refine lv_istore_n (lv' := [(2, .int (y2 + (1 : Int32))), (0, .ref (ad 0)), (1, .int x1), (3, .int y3)]) hx hb dX7_changedSince_46 rfl hl (by decide) rfl (fun ls hl => ?_)
          refine lv_iinc (v := y3 + (1 : Int32)) (lv' := [(3, .int (y3 + (1 : Int32))), (2, .int (y2 + (1 : Int32))), (0, .ref (ad 0)), (1, .int x1)]) hx hb dX7_changedSince_47 hl (k := 3) rfl (rfl) (by decide) rfl (fun ls hl => ?_)
          refine lv_goto (tgt := 14) hx hb dX7_changedSince_50 (by decide) ?_
          have hP : va_P g.1 az_cl (az_cM g ad (va_up V 2 wV2)) _ := hP
          have hD : va_D A (az_cM g ad (va_up V 2 wV2)) := hD
          exact ih wV2 (y2 + (1 : Int32)) (y3 + (1 : Int32)) _ _ ls h hP hD hS (lv_sub hl [2, 3, 1, 0] rfl)
        · replace h := az_pos c37 h
          refine lv_iconst (v := (0 : Int32)) hx hb dX7_changedSince_40 (by decide) ?_
          refine lv_goto (tgt := 45) hx hb dX7_changedSince_41 (by decide) ?_
          refine lv_iadd hx hb dX7_changedSince_45 ?_
          refine lv_istore_n (lv' := [(2, .int (y2 + (0 : Int32))), (0, .ref (ad 0)), (1, .int x1), (3, .int y3)]) hx hb dX7_changedSince_46 rfl hl (by decide) rfl (fun ls hl => ?_)
          refine lv_iinc (v := y3 + (1 : Int32)) (lv' := [(3, .int (y3 + (1 : Int32))), (2, .int (y2 + (0 : Int32))), (0, .ref (ad 0)), (1, .int x1)]) hx hb dX7_changedSince_47 hl (k := 3) rfl (rfl) (by decide) rfl (fun ls hl => ?_)
          refine lv_goto (tgt := 14) hx hb dX7_changedSince_50 (by decide) ?_
          have hP : va_P g.1 az_cl (az_cM g ad (va_up V 2 wV2)) _ := hP
          have hD : va_D A (az_cM g ad (va_up V 2 wV2)) := hD
          exact ih wV2 (y2 + (0 : Int32)) (y3 + (1 : Int32)) _ _ ls h hP hD hS (lv_sub hl [2, 3, 1, 0] rfl)
  refine lv_aload_n hx hb dX7_changedSince_0 rfl (lv_at hl 0 rfl) ?_
  refine lv_iload_n hx hb dX7_changedSince_1 rfl (lv_at hl 1 rfl) ?_
  obtain ⟨o2, hc2, h⟩ := az_bnd h
  refine az_callVi (w2 := az_cM g ad (va_up V 2 o2.2)) (As := [.int x1]) (rest := []) ⟨hx, hb, hml, hown, hts⟩ hl.1 (kX7_lacks l g ad V x1 o2 hc2) (cwV 1 hts gX7_changedSince_X7_lacks rfl rfl rfl (by decide +kernel) ⟨Nat.le_of_ble_eq_true rfl, Nat.le_of_ble_eq_true rfl⟩) rfl hK hP hD hS hA [0, 1, 2, 3] [] [0, 1, 2, 3] rfl rfl rfl rfl rfl (by decide) rfl rfl rfl 0 rfl rfl rfl (Nat.le_of_ble_eq_true rfl) dX7_changedSince_2 ⟨Nat.zero_le _, Nat.zero_le _⟩ rfl (fun H locs hP hD hS => ?_)
  refine lv_if_eq (tgt := 10) hx hb dX7_changedSince_5 (by decide) (fun c5 => ?_) (fun c5 => ?_)
  · replace h := az_pos c5 h
    refine lv_iconst (v := (0 : Int32)) hx hb dX7_changedSince_10 (by decide) ?_
    refine lv_istore_n (lv' := [(2, .int (0 : Int32)), (0, .ref (ad 0)), (1, .int x1)]) hx hb dX7_changedSince_11 rfl hl (by decide) rfl (fun ls hl => ?_)
    refine lv_iconst (v := (0 : Int32)) hx hb dX7_changedSince_12 (by decide) ?_
    refine lv_istore_n (lv' := [(3, .int (0 : Int32)), (2, .int (0 : Int32)), (0, .ref (ad 0)), (1, .int x1)]) hx hb dX7_changedSince_13 rfl hl (by decide) rfl (fun ls hl => ?_)
    have hP : va_P g.1 az_cl (az_cM g ad (va_up V 2 o2.2)) _ := hP
    have hD : va_D A (az_cM g ad (va_up V 2 o2.2)) := hD
    exact hL14 az_fuel o2.2 (0 : Int32) (0 : Int32) _ _ ls h hP hD hS (lv_sub hl [2, 3, 1, 0] rfl)
  · replace h := az_neg c5 h
    refine lv_iconst (v := (0 : Int32)) hx hb dX7_changedSince_8 (by decide) ?_
    have hP : va_P g.1 az_cl (az_cM g ad (va_up V 2 o2.2)) _ := hP
    have hD : va_D A (az_cM g ad (va_up V 2 o2.2)) := hD
    rw [← Option.some.inj h]
    exact az_iret hx hb hr hlocks hK hP hD hS dX7_changedSince_9

def FX7_ownBlocks (V : az_St) (x1 : Int32) : Option (Int32 × (Nat → Int32)) := (FX7_lacks V x1).bind (fun o2 => if o2.1 = (0 : Int32) then ((FX7_owned (va_up V 2 o2.2) x1).bind (fun o14 => some (o14, o2.2))) else (some ((0 : Int32), o2.2)))
set_option maxHeartbeats 4000000 in
set_option maxRecDepth 100000 in
theorem kX7_ownBlocks (l : Launch) (g : az_G) (ad : Nat → Nat) (V : az_St) (x1 : Int32) (o : Int32 × (Nat → Int32)) (h : FX7_ownBlocks V x1 = some o) : az_I l yX7_ownBlocks wsX7_ownBlocks ({ frames := 3, cells := 0, slots := 0, locals := 70 } : Room) [.ref (ad 0), .int x1] g (az_cM g ad V) o.1 (az_cM g ad (va_up V 2 o.2)) := by
  refine az_body (cc := cX7_ownBlocks) (maxL := 2) (ret := (some .int)) (Qc := fun A => az_QI g (az_cM g ad (va_up V 2 o.2)) o.1 A) (by decide +kernel) rfl (Nat.le_of_ble_eq_true rfl) ?_
  intro p e s m args below meth c A hx hb hr hts hown hml hlocks hA hK hP hD hS ls hl
  have hl : lv_has ls 2 [(0, .ref (ad 0)), (1, .int x1)] := hl
  unfold FX7_ownBlocks at h
  refine lv_aload_n hx hb dX7_ownBlocks_0 rfl (lv_at hl 0 rfl) ?_
  refine lv_iload_n hx hb dX7_ownBlocks_1 rfl (lv_at hl 1 rfl) ?_
  obtain ⟨o2, hc2, h⟩ := az_bnd h
  refine az_callVi (w2 := az_cM g ad (va_up V 2 o2.2)) (As := [.int x1]) (rest := []) ⟨hx, hb, hml, hown, hts⟩ hl.1 (kX7_lacks l g ad V x1 o2 hc2) (cwV 1 hts gX7_ownBlocks_X7_lacks rfl rfl rfl (by decide +kernel) ⟨Nat.le_of_ble_eq_true rfl, Nat.le_of_ble_eq_true rfl⟩) rfl hK hP hD hS hA [0, 1, 2, 3] [] [0, 1, 2, 3] rfl rfl rfl rfl rfl (by decide) rfl rfl rfl 0 rfl rfl rfl (Nat.le_of_ble_eq_true rfl) dX7_ownBlocks_2 ⟨Nat.zero_le _, Nat.zero_le _⟩ rfl (fun H locs hP hD hS => ?_)
  refine lv_if_eq (tgt := 12) hx hb dX7_ownBlocks_5 (by decide) (fun c5 => ?_) (fun c5 => ?_)
  · replace h := az_pos c5 h
    refine lv_aload_n hx hb dX7_ownBlocks_12 rfl (lv_at hl 0 rfl) ?_
    refine lv_iload_n hx hb dX7_ownBlocks_13 rfl (lv_at hl 1 rfl) ?_
    obtain ⟨o14, hc14, h⟩ := az_bnd h
    refine az_callVi (w2 := az_cM g ad (va_up V 2 o2.2)) (As := [.int x1]) (rest := []) ⟨hx, hb, hml, hown, hts⟩ hl.1 (kX7_owned l g ad (va_up V 2 o2.2) x1 o14 hc14) (cwV 1 hts gX7_ownBlocks_X7_owned rfl rfl rfl (by decide +kernel) ⟨Nat.le_of_ble_eq_true rfl, Nat.le_of_ble_eq_true rfl⟩) rfl hK hP hD hS hA [0, 1, 2, 3] [] [0, 1, 2, 3] rfl rfl rfl rfl rfl (by decide) rfl rfl rfl 0 rfl rfl rfl (Nat.le_of_ble_eq_true rfl) dX7_ownBlocks_14 ⟨Nat.zero_le _, Nat.zero_le _⟩ rfl (fun H locs hP hD hS => ?_)
    have hP : va_P g.1 az_cl (az_cM g ad (va_up V 2 o2.2)) _ := hP
    have hD : va_D A (az_cM g ad (va_up V 2 o2.2)) := hD
    rw [← Option.some.inj h]
    exact az_iret hx hb hr hlocks hK hP hD hS dX7_ownBlocks_17
  · replace h := az_neg c5 h
    refine lv_iconst (v := (0 : Int32)) hx hb dX7_ownBlocks_8 (by decide) ?_
    refine lv_goto (tgt := 17) hx hb dX7_ownBlocks_9 (by decide) ?_
    have hP : va_P g.1 az_cl (az_cM g ad (va_up V 2 o2.2)) _ := hP
    have hD : va_D A (az_cM g ad (va_up V 2 o2.2)) := hD
    rw [← Option.some.inj h]
    exact az_iret hx hb hr hlocks hK hP hD hS dX7_ownBlocks_17

def FX7_rollBack_L18 : Nat → az_St → Int32 → (Nat → Int32) → (Nat → Int32) → (Nat → Int32) → Int32 → Int32 → Option (Int32 × (Nat → Int32) × (Nat → Int32) × (Nat → Int32))
  | 0, _, _, _, _, _, _, _ => none
  | n + 1, V, x1, wV0, wV1, wV2, y2, y3 => if (24 : Int32) ≤ y3 then (some (y2, wV0, wV1, wV2)) else ((FX7_inSnapshot (va_up (va_up (va_up V 0 wV0) 1 wV1) 2 wV2) x1 y3).bind (fun o27 => if az_in ((840 : Int32) + y3) 1036 = true then if o27 = wV0 ((840 : Int32) + y3).toNatClampNeg then (FX7_rollBack_L18 n V x1 wV0 wV1 wV2 y2 (y3 + (1 : Int32))) else ((FX7_ends (va_up (va_up (va_up V 0 wV0) 1 wV1) 2 wV2) y3).bind (fun o52 => az_lt (upd o52 ((840 : Int32) + y3).toNatClampNeg o27) (fun u66 => if o27 = (-1 : Int32) then (FX7_rollBack_L18 n V x1 u66 wV1 wV2 (y2 + (1 : Int32)) (y3 + (1 : Int32))) else ((FX7_setBlock (va_up (va_up (va_up V 0 u66) 1 wV1) 2 wV2) o27 (0 : Int32) (1 : Int32)).bind (fun o78 => FX7_rollBack_L18 n V x1 o78 wV1 wV2 (y2 + (1 : Int32)) (y3 + (1 : Int32))))))) else none))
theorem FX7_rollBack_L18_s (n : Nat) (V : az_St) (x1 : Int32) (wV0 : Nat → Int32) (wV1 : Nat → Int32) (wV2 : Nat → Int32) (y2 : Int32) (y3 : Int32) : FX7_rollBack_L18 (n + 1) V x1 wV0 wV1 wV2 y2 y3 = (if (24 : Int32) ≤ y3 then (some (y2, wV0, wV1, wV2)) else ((FX7_inSnapshot (va_up (va_up (va_up V 0 wV0) 1 wV1) 2 wV2) x1 y3).bind (fun o27 => if az_in ((840 : Int32) + y3) 1036 = true then if o27 = wV0 ((840 : Int32) + y3).toNatClampNeg then (FX7_rollBack_L18 n V x1 wV0 wV1 wV2 y2 (y3 + (1 : Int32))) else ((FX7_ends (va_up (va_up (va_up V 0 wV0) 1 wV1) 2 wV2) y3).bind (fun o52 => az_lt (upd o52 ((840 : Int32) + y3).toNatClampNeg o27) (fun u66 => if o27 = (-1 : Int32) then (FX7_rollBack_L18 n V x1 u66 wV1 wV2 (y2 + (1 : Int32)) (y3 + (1 : Int32))) else ((FX7_setBlock (va_up (va_up (va_up V 0 u66) 1 wV1) 2 wV2) o27 (0 : Int32) (1 : Int32)).bind (fun o78 => FX7_rollBack_L18 n V x1 o78 wV1 wV2 (y2 + (1 : Int32)) (y3 + (1 : Int32))))))) else none))) := rfl
def FX7_rollBack (V : az_St) (x1 : Int32) : Option (Int32 × (Nat → Int32) × (Nat → Int32) × (Nat → Int32)) := (FX7_lacks V x1).bind (fun o2 => if o2.1 = (0 : Int32) then ((FX7_keeps (va_up V 2 o2.2)).bind (fun o11 => FX7_rollBack_L18 az_fuel V x1 (V 0) o11.1 o11.2 (0 : Int32) (0 : Int32))) else (some ((0 : Int32), (V 0), (V 1), o2.2)))
theorem inX7_rollBack_RX7 : ∀ w ∈ wsX70, w ∈ wsX7_rollBack := az_inr [45, 46, 47, 48, 49] (by decide +kernel)
set_option maxHeartbeats 4000000 in
set_option maxRecDepth 100000 in
theorem kX7_rollBack (l : Launch) (g : az_G) (ad : Nat → Nat) (V : az_St) (x1 : Int32) (o : Int32 × (Nat → Int32) × (Nat → Int32) × (Nat → Int32)) (h : FX7_rollBack V x1 = some o) : az_I l yX7_rollBack wsX7_rollBack ({ frames := 3, cells := 0, slots := 0, locals := 68 } : Room) [.ref (ad 0), .int x1] g (az_cM g ad V) o.1 (az_cM g ad (va_up (va_up (va_up V 0 o.2.1) 1 o.2.2.1) 2 o.2.2.2)) := by
  refine az_body (cc := cX7_rollBack) (maxL := 5) (ret := (some .int)) (Qc := fun A => az_QI g (az_cM g ad (va_up (va_up (va_up V 0 o.2.1) 1 o.2.2.1) 2 o.2.2.2)) o.1 A) (by decide +kernel) rfl (Nat.le_of_ble_eq_true rfl) ?_
  intro p e s m args below meth c A hx hb hr hts hown hml hlocks hA hK hP hD hS ls hl
  have hl : lv_has ls 5 [(0, .ref (ad 0)), (1, .int x1)] := hl
  unfold FX7_rollBack at h
  have hL18 : ∀ (n : Nat) (wV0 : Nat → Int32) (wV1 : Nat → Int32) (wV2 : Nat → Int32) (y2 : Int32) (y3 : Int32) (H : Heap) (locs : List Loc) (ls : Array Slot), FX7_rollBack_L18 n V x1 wV0 wV1 wV2 y2 y3 = some o → va_P g.1 az_cl (az_cM g ad (va_up (va_up (va_up V 0 wV0) 1 wV1) 2 wV2)) H → va_D A (az_cM g ad (va_up (va_up (va_up V 0 wV0) 1 wV1) 2 wV2)) → va_S A s.heap H locs → lv_has ls 5 [(0, .ref (ad 0)), (1, .int x1), (2, .int y2), (3, .int y3)] → W p l e ({ frames := 3, cells := 0, slots := 0, locals := 68 } : Room) s m args below meth c H locs 0 0 (MQ below (az_QI g (az_cM g ad (va_up (va_up (va_up V 0 o.2.1) 1 o.2.2.1) 2 o.2.2.2)) o.1 A) args s 0 0 A) (F0 m 18 ls []) := by
    intro n
    induction n with
    | zero => intro wV0 wV1 wV2 y2 y3 H locs ls h; exact az_non h
    | succ n ih =>
      intro wV0 wV1 wV2 y2 y3 H locs ls h hP hD hS hl
      rw [FX7_rollBack_L18_s] at h
      refine lv_iload_n hx hb dX7_rollBack_18 rfl (lv_at hl 3 rfl) ?_
      refine lv_bipush (v := (24 : Int32)) hx hb dX7_rollBack_19 (by decide) ?_
      refine lv_icmp_ge (tgt := 90) hx hb dX7_rollBack_21 (by decide) (fun c21 => ?_) (fun c21 => ?_)
      · replace h := az_pos c21 h
        refine lv_iload_n hx hb dX7_rollBack_90 rfl (lv_at hl 2 rfl) ?_
        have hP : va_P g.1 az_cl (az_cM g ad (va_up (va_up (va_up V 0 wV0) 1 wV1) 2 wV2)) _ := hP
        have hD : va_D A (az_cM g ad (va_up (va_up (va_up V 0 wV0) 1 wV1) 2 wV2)) := hD
        rw [← Option.some.inj h]
        exact az_iret hx hb hr hlocks hK hP hD hS dX7_rollBack_91
      · replace h := az_neg c21 h
        refine lv_aload_n hx hb dX7_rollBack_24 rfl (lv_at hl 0 rfl) ?_
        refine lv_iload_n hx hb dX7_rollBack_25 rfl (lv_at hl 1 rfl) ?_
        refine lv_iload_n hx hb dX7_rollBack_26 rfl (lv_at hl 3 rfl) ?_
        obtain ⟨o27, hc27, h⟩ := az_bnd h
        refine az_callVi (w2 := az_cM g ad (va_up (va_up (va_up V 0 wV0) 1 wV1) 2 wV2)) (As := [.int x1, .int y3]) (rest := []) ⟨hx, hb, hml, hown, hts⟩ hl.1 (kX7_inSnapshot l g ad (va_up (va_up (va_up V 0 wV0) 1 wV1) 2 wV2) x1 y3 o27 hc27) (cwV 2 hts gX7_rollBack_X7_inSnapshot rfl rfl rfl (by decide +kernel) ⟨Nat.le_of_ble_eq_true rfl, Nat.le_of_ble_eq_true rfl⟩) rfl hK hP hD hS hA [0, 1, 2, 3] [] [0, 1, 2, 3] rfl rfl rfl rfl rfl (by decide) rfl rfl rfl 0 rfl rfl rfl (Nat.le_of_ble_eq_true rfl) dX7_rollBack_27 ⟨Nat.zero_le _, Nat.zero_le _⟩ rfl (fun H locs hP hD hS => ?_)
        refine lv_istore (lv' := [(4, .int o27), (0, .ref (ad 0)), (1, .int x1), (2, .int y2), (3, .int y3)]) hx hb dX7_rollBack_30 hl (by decide) rfl (fun ls hl => ?_)
        refine lv_iload hx hb dX7_rollBack_32 (lv_at hl 0 rfl) ?_
        refine lv_aload_n hx hb dX7_rollBack_34 rfl (lv_at hl 1 rfl) ?_
        refine va_get (D := g.1) (ci := 7) (v := .ref (ad 1)) (C := RX7) (T := TX7) (N := 5) hx hb hts inX7_rollBack_RX7 hown hK hP 0 rfl rfl 0 (Nat.le_of_ble_eq_true rfl) (hts _ (List.mem_of_getElem? (i := 1) rfl)) (fun _ h9 => h9) rfl dX7_rollBack_35 ?_
        refine lv_sipush (v := (840 : Int32)) hx hb dX7_rollBack_38 (by decide) ?_
        refine lv_iload_n hx hb dX7_rollBack_41 rfl (lv_at hl 4 rfl) ?_
        refine lv_iadd hx hb dX7_rollBack_42 ?_
        obtain ⟨i43, h⟩ := az_ite h
        refine va_iald (D := g.1) (f := wV0) hx hb hK hP 1 0 rfl rfl (az_vin i43) dX7_rollBack_43 ?_
        refine lv_icmp_ne (tgt := 50) hx hb dX7_rollBack_44 (by decide) (fun c44 => ?_) (fun c44 => ?_)
        · replace h := az_neg c44 h
          refine lv_aload_n hx hb dX7_rollBack_50 rfl (lv_at hl 1 rfl) ?_
          refine lv_iload_n hx hb dX7_rollBack_51 rfl (lv_at hl 4 rfl) ?_
          obtain ⟨o52, hc52, h⟩ := az_bnd h
          refine az_callVv (w2 := az_cM g ad (va_up (va_up (va_up V 0 o52) 1 wV1) 2 wV2)) (As := [.int y3]) (rest := []) ⟨hx, hb, hml, hown, hts⟩ hl.1 (kX7_ends l g ad (va_up (va_up (va_up V 0 wV0) 1 wV1) 2 wV2) y3 o52 hc52) (cwV 1 hts gX7_rollBack_X7_ends rfl rfl rfl (by decide +kernel) ⟨Nat.le_of_ble_eq_true rfl, Nat.le_of_ble_eq_true rfl⟩) rfl hK hP hD hS hA [0, 1, 2, 3] [] [0, 1, 2, 3] rfl rfl rfl rfl rfl (by decide) rfl rfl rfl 0 rfl rfl rfl (Nat.le_of_ble_eq_true rfl) dX7_rollBack_52 ⟨Nat.zero_le _, Nat.zero_le _⟩ rfl (fun H locs hP hD hS => ?_)
          refine lv_aload_n hx hb dX7_rollBack_55 rfl (lv_at hl 1 rfl) ?_
          refine va_get (D := g.1) (ci := 7) (v := .ref (ad 1)) (C := RX7) (T := TX7) (N := 5) hx hb hts inX7_rollBack_RX7 hown hK hP 0 rfl rfl 0 (Nat.le_of_ble_eq_true rfl) (hts _ (List.mem_of_getElem? (i := 1) rfl)) (fun _ h9 => h9) rfl dX7_rollBack_56 ?_
          refine lv_sipush (v := (840 : Int32)) hx hb dX7_rollBack_59 (by decide) ?_
          refine lv_iload_n hx hb dX7_rollBack_62 rfl (lv_at hl 4 rfl) ?_
          refine lv_iadd hx hb dX7_rollBack_63 ?_
          refine lv_iload hx hb dX7_rollBack_64 (lv_at hl 0 rfl) ?_
          refine va_iast (D := g.1) (f := o52) hx hb hK hP hD hS 1 0 rfl rfl (az_vin i43) dX7_rollBack_66 (fun H locs hP hD hS => ?_)
          obtain ⟨u66, e66⟩ : ∃ w : Nat → Int32, w = upd o52 ((840 : Int32) + y3).toNatClampNeg o27 := ⟨_, rfl⟩
          have hP : va_P g.1 az_cl (az_cM g ad (va_up (va_up (va_up V 0 u66) 1 wV1) 2 wV2)) H := by rw [e66]; exact hP
          have hD : va_D A (az_cM g ad (va_up (va_up (va_up V 0 u66) 1 wV1) 2 wV2)) := by rw [e66]; exact hD
          replace h := az_let e66 h
          refine lv_iload hx hb dX7_rollBack_67 (lv_at hl 0 rfl) ?_
          refine lv_iconst (v := (-1 : Int32)) hx hb dX7_rollBack_69 (by decide) ?_
          refine lv_icmp_eq (tgt := 81) hx hb dX7_rollBack_70 (by decide) (fun c70 => ?_) (fun c70 => ?_)
          · replace h := az_pos c70 h
            refine lv_iinc (v := y2 + (1 : Int32)) (lv' := [(2, .int (y2 + (1 : Int32))), (4, .int o27), (0, .ref (ad 0)), (1, .int x1), (3, .int y3)]) hx hb dX7_rollBack_81 hl (k := 3) rfl (rfl) (by decide) rfl (fun ls hl => ?_)
            refine lv_iinc (v := y3 + (1 : Int32)) (lv' := [(3, .int (y3 + (1 : Int32))), (2, .int (y2 + (1 : Int32))), (4, .int o27), (0, .ref (ad 0)), (1, .int x1)]) hx hb dX7_rollBack_84 hl (k := 4) rfl (rfl) (by decide) rfl (fun ls hl => ?_)
            refine lv_goto (tgt := 18) hx hb dX7_rollBack_87 (by decide) ?_
            have hP : va_P g.1 az_cl (az_cM g ad (va_up (va_up (va_up V 0 u66) 1 wV1) 2 wV2)) _ := hP
            have hD : va_D A (az_cM g ad (va_up (va_up (va_up V 0 u66) 1 wV1) 2 wV2)) := hD
            exact ih u66 wV1 wV2 (y2 + (1 : Int32)) (y3 + (1 : Int32)) _ _ ls h hP hD hS (lv_sub hl [3, 4, 1, 0] rfl)
          · replace h := az_neg c70 h
            refine lv_aload_n hx hb dX7_rollBack_73 rfl (lv_at hl 1 rfl) ?_
            refine lv_iload hx hb dX7_rollBack_74 (lv_at hl 0 rfl) ?_
            refine lv_iconst (v := (0 : Int32)) hx hb dX7_rollBack_76 (by decide) ?_
            refine lv_iconst (v := (1 : Int32)) hx hb dX7_rollBack_77 (by decide) ?_
            obtain ⟨o78, hc78, h⟩ := az_bnd h
            refine az_callVv (w2 := az_cM g ad (va_up (va_up (va_up V 0 o78) 1 wV1) 2 wV2)) (As := [.int o27, .int (0 : Int32), .int (1 : Int32)]) (rest := []) ⟨hx, hb, hml, hown, hts⟩ hl.1 (kX7_setBlock l g ad (va_up (va_up (va_up V 0 u66) 1 wV1) 2 wV2) o27 (0 : Int32) (1 : Int32) o78 hc78) (cwV 3 hts gX7_rollBack_X7_setBlock rfl rfl rfl (by decide +kernel) ⟨Nat.le_of_ble_eq_true rfl, Nat.le_of_ble_eq_true rfl⟩) rfl hK hP hD hS hA [0, 1, 2, 3] [] [0, 1, 2, 3] rfl rfl rfl rfl rfl (by decide) rfl rfl rfl 0 rfl rfl rfl (Nat.le_of_ble_eq_true rfl) dX7_rollBack_78 ⟨Nat.zero_le _, Nat.zero_le _⟩ rfl (fun H locs hP hD hS => ?_)
            refine lv_iinc (v := y2 + (1 : Int32)) (lv' := [(2, .int (y2 + (1 : Int32))), (4, .int o27), (0, .ref (ad 0)), (1, .int x1), (3, .int y3)]) hx hb dX7_rollBack_81 hl (k := 3) rfl (rfl) (by decide) rfl (fun ls hl => ?_)
            refine lv_iinc (v := y3 + (1 : Int32)) (lv' := [(3, .int (y3 + (1 : Int32))), (2, .int (y2 + (1 : Int32))), (4, .int o27), (0, .ref (ad 0)), (1, .int x1)]) hx hb dX7_rollBack_84 hl (k := 4) rfl (rfl) (by decide) rfl (fun ls hl => ?_)
            refine lv_goto (tgt := 18) hx hb dX7_rollBack_87 (by decide) ?_
            have hP : va_P g.1 az_cl (az_cM g ad (va_up (va_up (va_up V 0 o78) 1 wV1) 2 wV2)) _ := hP
            have hD : va_D A (az_cM g ad (va_up (va_up (va_up V 0 o78) 1 wV1) 2 wV2)) := hD
            exact ih o78 wV1 wV2 (y2 + (1 : Int32)) (y3 + (1 : Int32)) _ _ ls h hP hD hS (lv_sub hl [3, 4, 1, 0] rfl)
        · replace h := az_pos c44 h
          refine lv_goto (tgt := 84) hx hb dX7_rollBack_47 (by decide) ?_
          refine lv_iinc (v := y3 + (1 : Int32)) (lv' := [(3, .int (y3 + (1 : Int32))), (4, .int o27), (0, .ref (ad 0)), (1, .int x1), (2, .int y2)]) hx hb dX7_rollBack_84 hl (k := 4) rfl (rfl) (by decide) rfl (fun ls hl => ?_)
          refine lv_goto (tgt := 18) hx hb dX7_rollBack_87 (by decide) ?_
          have hP : va_P g.1 az_cl (az_cM g ad (va_up (va_up (va_up V 0 wV0) 1 wV1) 2 wV2)) _ := hP
          have hD : va_D A (az_cM g ad (va_up (va_up (va_up V 0 wV0) 1 wV1) 2 wV2)) := hD
          exact ih wV0 wV1 wV2 y2 (y3 + (1 : Int32)) _ _ ls h hP hD hS (lv_sub hl [2, 3, 4, 0] rfl)
  refine lv_aload_n hx hb dX7_rollBack_0 rfl (lv_at hl 0 rfl) ?_
  refine lv_iload_n hx hb dX7_rollBack_1 rfl (lv_at hl 1 rfl) ?_
  obtain ⟨o2, hc2, h⟩ := az_bnd h
  refine az_callVi (w2 := az_cM g ad (va_up V 2 o2.2)) (As := [.int x1]) (rest := []) ⟨hx, hb, hml, hown, hts⟩ hl.1 (kX7_lacks l g ad V x1 o2 hc2) (cwV 1 hts gX7_rollBack_X7_lacks rfl rfl rfl (by decide +kernel) ⟨Nat.le_of_ble_eq_true rfl, Nat.le_of_ble_eq_true rfl⟩) rfl hK hP hD hS hA [0, 1, 2, 3] [] [0, 1, 2, 3] rfl rfl rfl rfl rfl (by decide) rfl rfl rfl 0 rfl rfl rfl (Nat.le_of_ble_eq_true rfl) dX7_rollBack_2 ⟨Nat.zero_le _, Nat.zero_le _⟩ rfl (fun H locs hP hD hS => ?_)
  refine lv_if_eq (tgt := 10) hx hb dX7_rollBack_5 (by decide) (fun c5 => ?_) (fun c5 => ?_)
  · replace h := az_pos c5 h
    refine lv_aload_n hx hb dX7_rollBack_10 rfl (lv_at hl 0 rfl) ?_
    obtain ⟨o11, hc11, h⟩ := az_bnd h
    refine az_callVv (w2 := az_cM g ad (va_up (va_up V 1 o11.1) 2 o11.2)) (As := []) (rest := []) ⟨hx, hb, hml, hown, hts⟩ hl.1 (kX7_keeps l g ad (va_up V 2 o2.2) o11 hc11) (cwV 0 hts gX7_rollBack_X7_keeps rfl rfl rfl (by decide +kernel) ⟨Nat.le_of_ble_eq_true rfl, Nat.le_of_ble_eq_true rfl⟩) rfl hK hP hD hS hA [0, 1, 2, 3] [] [0, 1, 2, 3] rfl rfl rfl rfl rfl (by decide) rfl rfl rfl 0 rfl rfl rfl (Nat.le_of_ble_eq_true rfl) dX7_rollBack_11 ⟨Nat.zero_le _, Nat.zero_le _⟩ rfl (fun H locs hP hD hS => ?_)
    refine lv_iconst (v := (0 : Int32)) hx hb dX7_rollBack_14 (by decide) ?_
    refine lv_istore_n (lv' := [(2, .int (0 : Int32)), (0, .ref (ad 0)), (1, .int x1)]) hx hb dX7_rollBack_15 rfl hl (by decide) rfl (fun ls hl => ?_)
    refine lv_iconst (v := (0 : Int32)) hx hb dX7_rollBack_16 (by decide) ?_
    refine lv_istore_n (lv' := [(3, .int (0 : Int32)), (2, .int (0 : Int32)), (0, .ref (ad 0)), (1, .int x1)]) hx hb dX7_rollBack_17 rfl hl (by decide) rfl (fun ls hl => ?_)
    have hP : va_P g.1 az_cl (az_cM g ad (va_up (va_up (va_up V 0 (V 0)) 1 o11.1) 2 o11.2)) _ := hP
    have hD : va_D A (az_cM g ad (va_up (va_up (va_up V 0 (V 0)) 1 o11.1) 2 o11.2)) := hD
    exact hL18 az_fuel (V 0) o11.1 o11.2 (0 : Int32) (0 : Int32) _ _ ls h hP hD hS (lv_sub hl [2, 3, 1, 0] rfl)
  · replace h := az_neg c5 h
    refine lv_iconst (v := (0 : Int32)) hx hb dX7_rollBack_8 (by decide) ?_
    have hP : va_P g.1 az_cl (az_cM g ad (va_up (va_up (va_up V 0 (V 0)) 1 (V 1)) 2 o2.2)) _ := hP
    have hD : va_D A (az_cM g ad (va_up (va_up (va_up V 0 (V 0)) 1 (V 1)) 2 o2.2)) := hD
    rw [← Option.some.inj h]
    exact az_iret hx hb hr hlocks hK hP hD hS dX7_rollBack_9
