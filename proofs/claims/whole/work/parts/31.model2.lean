/-! 31.model2: printed by wip/whole/gen.py out of the printed instructions -/
def FX7_difference_L67 : Nat → az_St → Int32 → Int32 → (Nat → Int32) → Int32 → Int32 → Option (Int32 × (Nat → Int32))
  | 0, _, _, _, _, _, _ => none
  | n + 1, V, x1, x2, wV2, y3, y4 => if (24 : Int32) ≤ y4 then (some (y3, wV2)) else ((FX7_inSnapshot (va_up V 2 wV2) x1 y4).bind (fun o79 => (FX7_inSnapshot (va_up V 2 wV2) x2 y4).bind (fun o86 => if o79 = o86 then (FX7_difference_L67 n V x1 x2 wV2 (y3 + (0 : Int32)) (y4 + (1 : Int32))) else (FX7_difference_L67 n V x1 x2 wV2 (y3 + (1 : Int32)) (y4 + (1 : Int32))))))
theorem FX7_difference_L67_s (n : Nat) (V : az_St) (x1 : Int32) (x2 : Int32) (wV2 : Nat → Int32) (y3 : Int32) (y4 : Int32) : FX7_difference_L67 (n + 1) V x1 x2 wV2 y3 y4 = (if (24 : Int32) ≤ y4 then (some (y3, wV2)) else ((FX7_inSnapshot (va_up V 2 wV2) x1 y4).bind (fun o79 => (FX7_inSnapshot (va_up V 2 wV2) x2 y4).bind (fun o86 => if o79 = o86 then (FX7_difference_L67 n V x1 x2 wV2 (y3 + (0 : Int32)) (y4 + (1 : Int32))) else (FX7_difference_L67 n V x1 x2 wV2 (y3 + (1 : Int32)) (y4 + (1 : Int32))))))) := rfl
def FX7_difference (V : az_St) (x1 : Int32) (x2 : Int32) : Option (Int32 × (Nat → Int32)) := (FX7_isSnapshot x1).bind (fun o2 => if o2 = (0 : Int32) then (az_lt (upd (V 2) 1 (1 : Int32)) (fun u50 => if u50 1 ≤ (0 : Int32) then (FX7_difference_L67 az_fuel V x1 x2 u50 (0 : Int32) (0 : Int32)) else (some ((0 : Int32), u50)))) else ((FX7_isSnapshot x2).bind (fun o9 => if o9 = (0 : Int32) then (az_lt (upd (V 2) 1 (1 : Int32)) (fun u50 => if u50 1 ≤ (0 : Int32) then (FX7_difference_L67 az_fuel V x1 x2 u50 (0 : Int32) (0 : Int32)) else (some ((0 : Int32), u50)))) else (if az_in ((864 : Int32) + x1) 1036 = true then if (V 0) ((864 : Int32) + x1).toNatClampNeg = (0 : Int32) then (az_lt (upd (V 2) 1 (2 : Int32)) (fun u50 => if u50 1 ≤ (0 : Int32) then (FX7_difference_L67 az_fuel V x1 x2 u50 (0 : Int32) (0 : Int32)) else (some ((0 : Int32), u50)))) else (if az_in ((864 : Int32) + x2) 1036 = true then if (V 0) ((864 : Int32) + x2).toNatClampNeg = (0 : Int32) then (az_lt (upd (V 2) 1 (2 : Int32)) (fun u50 => if u50 1 ≤ (0 : Int32) then (FX7_difference_L67 az_fuel V x1 x2 u50 (0 : Int32) (0 : Int32)) else (some ((0 : Int32), u50)))) else (az_lt (upd (V 2) 1 (0 : Int32)) (fun u50 => if u50 1 ≤ (0 : Int32) then (FX7_difference_L67 az_fuel V x1 x2 u50 (0 : Int32) (0 : Int32)) else (some ((0 : Int32), u50)))) else none) else none))))
theorem inX7_difference_RX7 : ∀ w ∈ wsX70, w ∈ wsX7_difference := az_inr [15, 16, 17, 18, 19] (by decide +kernel)
set_option maxHeartbeats 4000000 in
set_option maxRecDepth 100000 in
theorem kX7_difference (l : Launch) (g : az_G) (ad : Nat → Nat) (V : az_St) (x1 : Int32) (x2 : Int32) (o : Int32 × (Nat → Int32)) (h : FX7_difference V x1 x2 = some o) : az_I l yX7_difference wsX7_difference ({ frames := 2, cells := 0, slots := 0, locals := 45 } : Room) [.ref (ad 0), .int x1, .int x2] g (az_cM g ad V) o.1 (az_cM g ad (va_up V 2 o.2)) := by
  refine az_body (cc := cX7_difference) (maxL := 5) (ret := (some .int)) (Qc := fun A => az_QI g (az_cM g ad (va_up V 2 o.2)) o.1 A) (by decide +kernel) rfl (Nat.le_of_ble_eq_true rfl) ?_
  intro p e s m args below meth c A hx hb hr hts hown hml hlocks hA hK hP hD hS ls hl
  have hl : lv_has ls 5 [(0, .ref (ad 0)), (1, .int x1), (2, .int x2)] := hl
  unfold FX7_difference at h
  have hL67 : ∀ (n : Nat) (wV2 : Nat → Int32) (y3 : Int32) (y4 : Int32) (H : Heap) (locs : List Loc) (ls : Array Slot), FX7_difference_L67 n V x1 x2 wV2 y3 y4 = some o → va_P g.1 az_cl (az_cM g ad (va_up V 2 wV2)) H → va_D A (az_cM g ad (va_up V 2 wV2)) → va_S A s.heap H locs → lv_has ls 5 [(0, .ref (ad 0)), (1, .int x1), (2, .int x2), (3, .int y3), (4, .int y4)] → W p l e ({ frames := 2, cells := 0, slots := 0, locals := 45 } : Room) s m args below meth c H locs 0 0 (MQ below (az_QI g (az_cM g ad (va_up V 2 o.2)) o.1 A) args s 0 0 A) (F0 m 67 ls []) := by
    intro n
    induction n with
    | zero => intro wV2 y3 y4 H locs ls h; exact az_non h
    | succ n ih =>
      intro wV2 y3 y4 H locs ls h hP hD hS hl
      rw [FX7_difference_L67_s] at h
      refine lv_iload hx hb dX7_difference_67 (lv_at hl 4 rfl) ?_
      refine lv_bipush (v := (24 : Int32)) hx hb dX7_difference_69 (by decide) ?_
      refine lv_icmp_ge (tgt := 105) hx hb dX7_difference_71 (by decide) (fun c71 => ?_) (fun c71 => ?_)
      · replace h := az_pos c71 h
        refine lv_iload_n hx hb dX7_difference_105 rfl (lv_at hl 3 rfl) ?_
        have hP : va_P g.1 az_cl (az_cM g ad (va_up V 2 wV2)) _ := hP
        have hD : va_D A (az_cM g ad (va_up V 2 wV2)) := hD
        rw [← Option.some.inj h]
        exact az_iret hx hb hr hlocks hK hP hD hS dX7_difference_106
      · replace h := az_neg c71 h
        refine lv_iload_n hx hb dX7_difference_74 rfl (lv_at hl 3 rfl) ?_
        refine lv_aload_n hx hb dX7_difference_75 rfl (lv_at hl 0 rfl) ?_
        refine lv_iload_n hx hb dX7_difference_76 rfl (lv_at hl 1 rfl) ?_
        refine lv_iload hx hb dX7_difference_77 (lv_at hl 4 rfl) ?_
        obtain ⟨o79, hc79, h⟩ := az_bnd h
        refine az_callVi (w2 := az_cM g ad (va_up V 2 wV2)) (As := [.int x1, .int y4]) (rest := [.int y3]) ⟨hx, hb, hml, hown, hts⟩ hl.1 (kX7_inSnapshot l g ad (va_up V 2 wV2) x1 y4 o79 hc79) (cwV 2 hts gX7_difference_X7_inSnapshot rfl rfl rfl (by decide +kernel) ⟨Nat.le_of_ble_eq_true rfl, Nat.le_of_ble_eq_true rfl⟩) rfl hK hP hD hS hA [0, 1, 2, 3] [] [0, 1, 2, 3] rfl rfl rfl rfl rfl (by decide) rfl rfl rfl 0 rfl rfl rfl (Nat.le_of_ble_eq_true rfl) dX7_difference_79 ⟨Nat.zero_le _, Nat.zero_le _⟩ rfl (fun H locs hP hD hS => ?_)
        refine lv_aload_n hx hb dX7_difference_82 rfl (lv_at hl 0 rfl) ?_
        refine lv_iload_n hx hb dX7_difference_83 rfl (lv_at hl 2 rfl) ?_
        refine lv_iload hx hb dX7_difference_84 (lv_at hl 4 rfl) ?_
        obtain ⟨o86, hc86, h⟩ := az_bnd h
        refine az_callVi (w2 := az_cM g ad (va_up V 2 wV2)) (As := [.int x2, .int y4]) (rest := [.int o79, .int y3]) ⟨hx, hb, hml, hown, hts⟩ hl.1 (kX7_inSnapshot l g ad (va_up V 2 wV2) x2 y4 o86 hc86) (cwV 2 hts gX7_difference_X7_inSnapshot rfl rfl rfl (by decide +kernel) ⟨Nat.le_of_ble_eq_true rfl, Nat.le_of_ble_eq_true rfl⟩) rfl hK hP hD hS hA [0, 1, 2, 3] [] [0, 1, 2, 3] rfl rfl rfl rfl rfl (by decide) rfl rfl rfl 0 rfl rfl rfl (Nat.le_of_ble_eq_true rfl) dX7_difference_86 ⟨Nat.zero_le _, Nat.zero_le _⟩ rfl (fun H locs hP hD hS => ?_)
        refine lv_icmp_ne (tgt := 96) hx hb dX7_difference_89 (by decide) (fun c89 => ?_) (fun c89 => ?_)
        · replace h := az_neg c89 h
          refine lv_iconst (v := (1 : Int32)) hx hb dX7_difference_96 (by decide) ?_
          refine lv_iadd hx hb dX7_difference_97 ?_
          refine lv_istore_n (lv' := [(3, .int (y3 + (1 : Int32))), (0, .ref (ad 0)), (1, .int x1), (2, .int x2), (4, .int y4)]) hx hb dX7_difference_98 rfl hl (by decide) rfl (fun ls hl => ?_)
          refine lv_iinc (v := y4 + (1 : Int32)) (lv' := [(4, .int (y4 + (1 : Int32))), (3, .int (y3 + (1 : Int32))), (0, .ref (ad 0)), (1, .int x1), (2, .int x2)]) hx hb dX7_difference_99 hl (k := 4) rfl (rfl) (by decide) rfl (fun ls hl => ?_)
          refine lv_goto (tgt := 67) hx hb dX7_difference_102 (by decide) ?_
          have hP : va_P g.1 az_cl (az_cM g ad (va_up V 2 wV2)) _ := hP
          have hD : va_D A (az_cM g ad (va_up V 2 wV2)) := hD
          exact ih wV2 (y3 + (1 : Int32)) (y4 + (1 : Int32)) _ _ ls h hP hD hS (lv_sub hl [2, 3, 4, 1, 0] rfl)
        · replace h := az_pos c89 h
          refine lv_iconst (v := (0 : Int32)) hx hb dX7_difference_92 (by decide) ?_
          refine lv_goto (tgt := 97) hx hb dX7_difference_93 (by decide) ?_
          refine lv_iadd hx hb dX7_difference_97 ?_
          refine lv_istore_n (lv' := [(3, .int (y3 + (0 : Int32))), (0, .ref (ad 0)), (1, .int x1), (2, .int x2), (4, .int y4)]) hx hb dX7_difference_98 rfl hl (by decide) rfl (fun ls hl => ?_)
          refine lv_iinc (v := y4 + (1 : Int32)) (lv' := [(4, .int (y4 + (1 : Int32))), (3, .int (y3 + (0 : Int32))), (0, .ref (ad 0)), (1, .int x1), (2, .int x2)]) hx hb dX7_difference_99 hl (k := 4) rfl (rfl) (by decide) rfl (fun ls hl => ?_)
          refine lv_goto (tgt := 67) hx hb dX7_difference_102 (by decide) ?_
          have hP : va_P g.1 az_cl (az_cM g ad (va_up V 2 wV2)) _ := hP
          have hD : va_D A (az_cM g ad (va_up V 2 wV2)) := hD
          exact ih wV2 (y3 + (0 : Int32)) (y4 + (1 : Int32)) _ _ ls h hP hD hS (lv_sub hl [2, 3, 4, 1, 0] rfl)
  refine lv_aload_n hx hb dX7_difference_0 rfl (lv_at hl 0 rfl) ?_
  refine lv_iload_n hx hb dX7_difference_1 rfl (lv_at hl 1 rfl) ?_
  obtain ⟨o2, hc2, h⟩ := az_bnd h
  refine az_callS0 (As := [.int x1]) (rest := [.ref (ad 0)]) ⟨hx, hb, hml, hown, hts⟩ hl.1 (kX7_isSnapshot l g x1 o2 hc2) (va_cwS 1 hts gX7_difference_X7_isSnapshot rfl rfl rfl (by decide +kernel) ⟨Nat.le_of_ble_eq_true rfl, Nat.le_of_ble_eq_true rfl⟩) rfl hK hP hS hA (Nat.le_of_ble_eq_true rfl) dX7_difference_2 ⟨Nat.zero_le _, Nat.zero_le _⟩ rfl (fun H locs hP hS => ?_)
  refine lv_if_eq (tgt := 15) hx hb dX7_difference_5 (by decide) (fun c5 => ?_) (fun c5 => ?_)
  · replace h := az_pos c5 h
    refine lv_iconst (v := (1 : Int32)) hx hb dX7_difference_15 (by decide) ?_
    refine lv_goto (tgt := 50) hx hb dX7_difference_16 (by decide) ?_
    refine va_put (D := g.1) (ci := 7) (v := .int (1 : Int32)) (ty := .int) (C := RX7) (T := TX7) (N := 5) hx hb hts inX7_difference_RX7 tyX7 tyX7_ok nmX7 hown hK hP hD hS 0 rfl rfl 3 (Nat.le_of_ble_eq_true rfl) (hts _ (List.mem_of_getElem? (i := 2) rfl)) (fun _ h9 => h9) rfl (by decide +kernel) rfl rfl (Nat.le_of_ble_eq_true rfl) dX7_difference_50 (fun H locs hP hD hS => ?_)
    obtain ⟨u50, e50⟩ : ∃ w : Nat → Int32, w = upd (V 2) 1 (1 : Int32) := ⟨_, rfl⟩
    have hP : va_P g.1 az_cl (az_cM g ad (va_up V 2 u50)) H := by rw [e50]; exact hP
    have hD : va_D A (az_cM g ad (va_up V 2 u50)) := by rw [e50]; exact hD
    replace h := az_let e50 h
    refine lv_aload_n hx hb dX7_difference_53 rfl (lv_at hl 0 rfl) ?_
    refine va_get (D := g.1) (ci := 7) (v := .int (u50 1)) (C := RX7) (T := TX7) (N := 5) hx hb hts inX7_difference_RX7 hown hK hP 0 rfl rfl 3 (Nat.le_of_ble_eq_true rfl) (hts _ (List.mem_of_getElem? (i := 2) rfl)) (fun _ h9 => h9) rfl dX7_difference_54 ?_
    refine lv_if_le (tgt := 62) hx hb dX7_difference_57 (by decide) (fun c57 => ?_) (fun c57 => ?_)
    · replace h := az_pos c57 h
      refine lv_iconst (v := (0 : Int32)) hx hb dX7_difference_62 (by decide) ?_
      refine lv_istore_n (lv' := [(3, .int (0 : Int32)), (0, .ref (ad 0)), (1, .int x1), (2, .int x2)]) hx hb dX7_difference_63 rfl hl (by decide) rfl (fun ls hl => ?_)
      refine lv_iconst (v := (0 : Int32)) hx hb dX7_difference_64 (by decide) ?_
      refine lv_istore (lv' := [(4, .int (0 : Int32)), (3, .int (0 : Int32)), (0, .ref (ad 0)), (1, .int x1), (2, .int x2)]) hx hb dX7_difference_65 hl (by decide) rfl (fun ls hl => ?_)
      have hP : va_P g.1 az_cl (az_cM g ad (va_up V 2 u50)) _ := hP
      have hD : va_D A (az_cM g ad (va_up V 2 u50)) := hD
      exact hL67 az_fuel u50 (0 : Int32) (0 : Int32) _ _ ls h hP hD hS (lv_sub hl [2, 3, 4, 1, 0] rfl)
    · replace h := az_neg c57 h
      refine lv_iconst (v := (0 : Int32)) hx hb dX7_difference_60 (by decide) ?_
      have hP : va_P g.1 az_cl (az_cM g ad (va_up V 2 u50)) _ := hP
      have hD : va_D A (az_cM g ad (va_up V 2 u50)) := hD
      rw [← Option.some.inj h]
      exact az_iret hx hb hr hlocks hK hP hD hS dX7_difference_61
  · replace h := az_neg c5 h
    refine lv_iload_n hx hb dX7_difference_8 rfl (lv_at hl 2 rfl) ?_
    obtain ⟨o9, hc9, h⟩ := az_bnd h
    refine az_callS0 (As := [.int x2]) (rest := [.ref (ad 0)]) ⟨hx, hb, hml, hown, hts⟩ hl.1 (kX7_isSnapshot l g x2 o9 hc9) (va_cwS 1 hts gX7_difference_X7_isSnapshot rfl rfl rfl (by decide +kernel) ⟨Nat.le_of_ble_eq_true rfl, Nat.le_of_ble_eq_true rfl⟩) rfl hK hP hS hA (Nat.le_of_ble_eq_true rfl) dX7_difference_9 ⟨Nat.zero_le _, Nat.zero_le _⟩ rfl (fun H locs hP hS => ?_)
    refine lv_if_ne (tgt := 19) hx hb dX7_difference_12 (by decide) (fun c12 => ?_) (fun c12 => ?_)
    · replace h := az_neg c12 h
      refine lv_aload_n hx hb dX7_difference_19 rfl (lv_at hl 0 rfl) ?_
      refine va_get (D := g.1) (ci := 7) (v := .ref (ad 1)) (C := RX7) (T := TX7) (N := 5) hx hb hts inX7_difference_RX7 hown hK hP 0 rfl rfl 0 (Nat.le_of_ble_eq_true rfl) (hts _ (List.mem_of_getElem? (i := 1) rfl)) (fun _ h9 => h9) rfl dX7_difference_20 ?_
      refine lv_sipush (v := (864 : Int32)) hx hb dX7_difference_23 (by decide) ?_
      refine lv_iload_n hx hb dX7_difference_26 rfl (lv_at hl 1 rfl) ?_
      refine lv_iadd hx hb dX7_difference_27 ?_
      obtain ⟨i28, h⟩ := az_ite h
      refine va_iald (D := g.1) (f := (V 0)) hx hb hK hP 1 0 rfl rfl (az_vin i28) dX7_difference_28 ?_
      refine lv_if_eq (tgt := 45) hx hb dX7_difference_29 (by decide) (fun c29 => ?_) (fun c29 => ?_)
      · replace h := az_pos c29 h
        refine lv_iconst (v := (2 : Int32)) hx hb dX7_difference_45 (by decide) ?_
        refine lv_goto (tgt := 50) hx hb dX7_difference_46 (by decide) ?_
        refine va_put (D := g.1) (ci := 7) (v := .int (2 : Int32)) (ty := .int) (C := RX7) (T := TX7) (N := 5) hx hb hts inX7_difference_RX7 tyX7 tyX7_ok nmX7 hown hK hP hD hS 0 rfl rfl 3 (Nat.le_of_ble_eq_true rfl) (hts _ (List.mem_of_getElem? (i := 2) rfl)) (fun _ h9 => h9) rfl (by decide +kernel) rfl rfl (Nat.le_of_ble_eq_true rfl) dX7_difference_50 (fun H locs hP hD hS => ?_)
        obtain ⟨u50, e50⟩ : ∃ w : Nat → Int32, w = upd (V 2) 1 (2 : Int32) := ⟨_, rfl⟩
        have hP : va_P g.1 az_cl (az_cM g ad (va_up V 2 u50)) H := by rw [e50]; exact hP
        have hD : va_D A (az_cM g ad (va_up V 2 u50)) := by rw [e50]; exact hD
        replace h := az_let e50 h
        refine lv_aload_n hx hb dX7_difference_53 rfl (lv_at hl 0 rfl) ?_
        refine va_get (D := g.1) (ci := 7) (v := .int (u50 1)) (C := RX7) (T := TX7) (N := 5) hx hb hts inX7_difference_RX7 hown hK hP 0 rfl rfl 3 (Nat.le_of_ble_eq_true rfl) (hts _ (List.mem_of_getElem? (i := 2) rfl)) (fun _ h9 => h9) rfl dX7_difference_54 ?_
        refine lv_if_le (tgt := 62) hx hb dX7_difference_57 (by decide) (fun c57 => ?_) (fun c57 => ?_)
        · replace h := az_pos c57 h
          refine lv_iconst (v := (0 : Int32)) hx hb dX7_difference_62 (by decide) ?_
          refine lv_istore_n (lv' := [(3, .int (0 : Int32)), (0, .ref (ad 0)), (1, .int x1), (2, .int x2)]) hx hb dX7_difference_63 rfl hl (by decide) rfl (fun ls hl => ?_)
          refine lv_iconst (v := (0 : Int32)) hx hb dX7_difference_64 (by decide) ?_
          refine lv_istore (lv' := [(4, .int (0 : Int32)), (3, .int (0 : Int32)), (0, .ref (ad 0)), (1, .int x1), (2, .int x2)]) hx hb dX7_difference_65 hl (by decide) rfl (fun ls hl => ?_)
          have hP : va_P g.1 az_cl (az_cM g ad (va_up V 2 u50)) _ := hP
          have hD : va_D A (az_cM g ad (va_up V 2 u50)) := hD
          exact hL67 az_fuel u50 (0 : Int32) (0 : Int32) _ _ ls h hP hD hS (lv_sub hl [2, 3, 4, 1, 0] rfl)
        · replace h := az_neg c57 h
          refine lv_iconst (v := (0 : Int32)) hx hb dX7_difference_60 (by decide) ?_
          have hP : va_P g.1 az_cl (az_cM g ad (va_up V 2 u50)) _ := hP
          have hD : va_D A (az_cM g ad (va_up V 2 u50)) := hD
          rw [← Option.some.inj h]
          exact az_iret hx hb hr hlocks hK hP hD hS dX7_difference_61
      · replace h := az_neg c29 h
        refine lv_aload_n hx hb dX7_difference_32 rfl (lv_at hl 0 rfl) ?_
        refine va_get (D := g.1) (ci := 7) (v := .ref (ad 1)) (C := RX7) (T := TX7) (N := 5) hx hb hts inX7_difference_RX7 hown hK hP 0 rfl rfl 0 (Nat.le_of_ble_eq_true rfl) (hts _ (List.mem_of_getElem? (i := 1) rfl)) (fun _ h9 => h9) rfl dX7_difference_33 ?_
        refine lv_sipush (v := (864 : Int32)) hx hb dX7_difference_36 (by decide) ?_
        refine lv_iload_n hx hb dX7_difference_39 rfl (lv_at hl 2 rfl) ?_
        refine lv_iadd hx hb dX7_difference_40 ?_
        obtain ⟨i41, h⟩ := az_ite h
        refine va_iald (D := g.1) (f := (V 0)) hx hb hK hP 1 0 rfl rfl (az_vin i41) dX7_difference_41 ?_
        refine lv_if_ne (tgt := 49) hx hb dX7_difference_42 (by decide) (fun c42 => ?_) (fun c42 => ?_)
        · replace h := az_neg c42 h
          refine lv_iconst (v := (0 : Int32)) hx hb dX7_difference_49 (by decide) ?_
          refine va_put (D := g.1) (ci := 7) (v := .int (0 : Int32)) (ty := .int) (C := RX7) (T := TX7) (N := 5) hx hb hts inX7_difference_RX7 tyX7 tyX7_ok nmX7 hown hK hP hD hS 0 rfl rfl 3 (Nat.le_of_ble_eq_true rfl) (hts _ (List.mem_of_getElem? (i := 2) rfl)) (fun _ h9 => h9) rfl (by decide +kernel) rfl rfl (Nat.le_of_ble_eq_true rfl) dX7_difference_50 (fun H locs hP hD hS => ?_)
          obtain ⟨u50, e50⟩ : ∃ w : Nat → Int32, w = upd (V 2) 1 (0 : Int32) := ⟨_, rfl⟩
          have hP : va_P g.1 az_cl (az_cM g ad (va_up V 2 u50)) H := by rw [e50]; exact hP
          have hD : va_D A (az_cM g ad (va_up V 2 u50)) := by rw [e50]; exact hD
          replace h := az_let e50 h
          refine lv_aload_n hx hb dX7_difference_53 rfl (lv_at hl 0 rfl) ?_
          refine va_get (D := g.1) (ci := 7) (v := .int (u50 1)) (C := RX7) (T := TX7) (N := 5) hx hb hts inX7_difference_RX7 hown hK hP 0 rfl rfl 3 (Nat.le_of_ble_eq_true rfl) (hts _ (List.mem_of_getElem? (i := 2) rfl)) (fun _ h9 => h9) rfl dX7_difference_54 ?_
          refine lv_if_le (tgt := 62) hx hb dX7_difference_57 (by decide) (fun c57 => ?_) (fun c57 => ?_)
          · replace h := az_pos c57 h
            refine lv_iconst (v := (0 : Int32)) hx hb dX7_difference_62 (by decide) ?_
            refine lv_istore_n (lv' := [(3, .int (0 : Int32)), (0, .ref (ad 0)), (1, .int x1), (2, .int x2)]) hx hb dX7_difference_63 rfl hl (by decide) rfl (fun ls hl => ?_)
            refine lv_iconst (v := (0 : Int32)) hx hb dX7_difference_64 (by decide) ?_
            refine lv_istore (lv' := [(4, .int (0 : Int32)), (3, .int (0 : Int32)), (0, .ref (ad 0)), (1, .int x1), (2, .int x2)]) hx hb dX7_difference_65 hl (by decide) rfl (fun ls hl => ?_)
            have hP : va_P g.1 az_cl (az_cM g ad (va_up V 2 u50)) _ := hP
            have hD : va_D A (az_cM g ad (va_up V 2 u50)) := hD
            exact hL67 az_fuel u50 (0 : Int32) (0 : Int32) _ _ ls h hP hD hS (lv_sub hl [2, 3, 4, 1, 0] rfl)
          · replace h := az_neg c57 h
            refine lv_iconst (v := (0 : Int32)) hx hb dX7_difference_60 (by decide) ?_
            have hP : va_P g.1 az_cl (az_cM g ad (va_up V 2 u50)) _ := hP
            have hD : va_D A (az_cM g ad (va_up V 2 u50)) := hD
            rw [← Option.some.inj h]
            exact az_iret hx hb hr hlocks hK hP hD hS dX7_difference_61
        · replace h := az_pos c42 h
          refine lv_iconst (v := (2 : Int32)) hx hb dX7_difference_45 (by decide) ?_
          refine lv_goto (tgt := 50) hx hb dX7_difference_46 (by decide) ?_
          refine va_put (D := g.1) (ci := 7) (v := .int (2 : Int32)) (ty := .int) (C := RX7) (T := TX7) (N := 5) hx hb hts inX7_difference_RX7 tyX7 tyX7_ok nmX7 hown hK hP hD hS 0 rfl rfl 3 (Nat.le_of_ble_eq_true rfl) (hts _ (List.mem_of_getElem? (i := 2) rfl)) (fun _ h9 => h9) rfl (by decide +kernel) rfl rfl (Nat.le_of_ble_eq_true rfl) dX7_difference_50 (fun H locs hP hD hS => ?_)
          obtain ⟨u50, e50⟩ : ∃ w : Nat → Int32, w = upd (V 2) 1 (2 : Int32) := ⟨_, rfl⟩
          have hP : va_P g.1 az_cl (az_cM g ad (va_up V 2 u50)) H := by rw [e50]; exact hP
          have hD : va_D A (az_cM g ad (va_up V 2 u50)) := by rw [e50]; exact hD
          replace h := az_let e50 h
          refine lv_aload_n hx hb dX7_difference_53 rfl (lv_at hl 0 rfl) ?_
          refine va_get (D := g.1) (ci := 7) (v := .int (u50 1)) (C := RX7) (T := TX7) (N := 5) hx hb hts inX7_difference_RX7 hown hK hP 0 rfl rfl 3 (Nat.le_of_ble_eq_true rfl) (hts _ (List.mem_of_getElem? (i := 2) rfl)) (fun _ h9 => h9) rfl dX7_difference_54 ?_
          refine lv_if_le (tgt := 62) hx hb dX7_difference_57 (by decide) (fun c57 => ?_) (fun c57 => ?_)
          · replace h := az_pos c57 h
            refine lv_iconst (v := (0 : Int32)) hx hb dX7_difference_62 (by decide) ?_
            refine lv_istore_n (lv' := [(3, .int (0 : Int32)), (0, .ref (ad 0)), (1, .int x1), (2, .int x2)]) hx hb dX7_difference_63 rfl hl (by decide) rfl (fun ls hl => ?_)
            refine lv_iconst (v := (0 : Int32)) hx hb dX7_difference_64 (by decide) ?_
            refine lv_istore (lv' := [(4, .int (0 : Int32)), (3, .int (0 : Int32)), (0, .ref (ad 0)), (1, .int x1), (2, .int x2)]) hx hb dX7_difference_65 hl (by decide) rfl (fun ls hl => ?_)
            have hP : va_P g.1 az_cl (az_cM g ad (va_up V 2 u50)) _ := hP
            have hD : va_D A (az_cM g ad (va_up V 2 u50)) := hD
            exact hL67 az_fuel u50 (0 : Int32) (0 : Int32) _ _ ls h hP hD hS (lv_sub hl [2, 3, 4, 1, 0] rfl)
          · replace h := az_neg c57 h
            refine lv_iconst (v := (0 : Int32)) hx hb dX7_difference_60 (by decide) ?_
            have hP : va_P g.1 az_cl (az_cM g ad (va_up V 2 u50)) _ := hP
            have hD : va_D A (az_cM g ad (va_up V 2 u50)) := hD
            rw [← Option.some.inj h]
            exact az_iret hx hb hr hlocks hK hP hD hS dX7_difference_61
    · replace h := az_pos c12 h
      refine lv_iconst (v := (1 : Int32)) hx hb dX7_difference_15 (by decide) ?_
      refine lv_goto (tgt := 50) hx hb dX7_difference_16 (by decide) ?_
      refine va_put (D := g.1) (ci := 7) (v := .int (1 : Int32)) (ty := .int) (C := RX7) (T := TX7) (N := 5) hx hb hts inX7_difference_RX7 tyX7 tyX7_ok nmX7 hown hK hP hD hS 0 rfl rfl 3 (Nat.le_of_ble_eq_true rfl) (hts _ (List.mem_of_getElem? (i := 2) rfl)) (fun _ h9 => h9) rfl (by decide +kernel) rfl rfl (Nat.le_of_ble_eq_true rfl) dX7_difference_50 (fun H locs hP hD hS => ?_)
      obtain ⟨u50, e50⟩ : ∃ w : Nat → Int32, w = upd (V 2) 1 (1 : Int32) := ⟨_, rfl⟩
      have hP : va_P g.1 az_cl (az_cM g ad (va_up V 2 u50)) H := by rw [e50]; exact hP
      have hD : va_D A (az_cM g ad (va_up V 2 u50)) := by rw [e50]; exact hD
      replace h := az_let e50 h
      refine lv_aload_n hx hb dX7_difference_53 rfl (lv_at hl 0 rfl) ?_
      refine va_get (D := g.1) (ci := 7) (v := .int (u50 1)) (C := RX7) (T := TX7) (N := 5) hx hb hts inX7_difference_RX7 hown hK hP 0 rfl rfl 3 (Nat.le_of_ble_eq_true rfl) (hts _ (List.mem_of_getElem? (i := 2) rfl)) (fun _ h9 => h9) rfl dX7_difference_54 ?_
      refine lv_if_le (tgt := 62) hx hb dX7_difference_57 (by decide) (fun c57 => ?_) (fun c57 => ?_)
      · replace h := az_pos c57 h
        refine lv_iconst (v := (0 : Int32)) hx hb dX7_difference_62 (by decide) ?_
        refine lv_istore_n (lv' := [(3, .int (0 : Int32)), (0, .ref (ad 0)), (1, .int x1), (2, .int x2)]) hx hb dX7_difference_63 rfl hl (by decide) rfl (fun ls hl => ?_)
        refine lv_iconst (v := (0 : Int32)) hx hb dX7_difference_64 (by decide) ?_
        refine lv_istore (lv' := [(4, .int (0 : Int32)), (3, .int (0 : Int32)), (0, .ref (ad 0)), (1, .int x1), (2, .int x2)]) hx hb dX7_difference_65 hl (by decide) rfl (fun ls hl => ?_)
        have hP : va_P g.1 az_cl (az_cM g ad (va_up V 2 u50)) _ := hP
        have hD : va_D A (az_cM g ad (va_up V 2 u50)) := hD
        exact hL67 az_fuel u50 (0 : Int32) (0 : Int32) _ _ ls h hP hD hS (lv_sub hl [2, 3, 4, 1, 0] rfl)
      · replace h := az_neg c57 h
        refine lv_iconst (v := (0 : Int32)) hx hb dX7_difference_60 (by decide) ?_
        have hP : va_P g.1 az_cl (az_cM g ad (va_up V 2 u50)) _ := hP
        have hD : va_D A (az_cM g ad (va_up V 2 u50)) := hD
        rw [← Option.some.inj h]
        exact az_iret hx hb hr hlocks hK hP hD hS dX7_difference_61

def FX7_isReader (x0 : Int32) : Option (Int32) := (FX7_isIn x0.toInt64 (0 : Int64) (5 : Int64)).bind (fun o6 => if az_01 o6 = true then some (o6) else none)
set_option maxHeartbeats 4000000 in
set_option maxRecDepth 100000 in
theorem kX7_isReader (l : Launch) (g : az_G)  (x0 : Int32) (o : Int32) (h : FX7_isReader x0 = some o) : az_I l yX7_isReader wsX7_isReader ({ frames := 1, cells := 0, slots := 0, locals := 25 } : Room) [.int x0] g ([]) o ([]) := by
  refine az_body (cc := cX7_isReader) (maxL := 1) (ret := (some .boolean)) (Qc := fun A => az_QI g ([]) o A) (by decide +kernel) rfl (Nat.le_of_ble_eq_true rfl) ?_
  intro p e s m args below meth c A hx hb hr hts hown hml hlocks hA hK hP hD hS ls hl
  have hl : lv_has ls 1 [(0, .int x0)] := hl
  unfold FX7_isReader at h
  refine lv_iload_n hx hb dX7_isReader_0 rfl (lv_at hl 0 rfl) ?_
  refine lv_i2l (v := x0.toInt64) hx hb dX7_isReader_1 rfl ?_
  refine lv_lconst (v := (0 : Int64)) hx hb dX7_isReader_2 (by decide) ?_
  refine lv_ldc2 (v := (5 : Int64)) hx hb hown (hts _ (List.mem_of_getElem? (i := 1) rfl)) dX7_isReader_3 ?_
  obtain ⟨o6, hc6, h⟩ := az_bnd h
  refine az_callS0 (As := [.long x0.toInt64, .long (0 : Int64), .long (5 : Int64)]) (rest := []) ⟨hx, hb, hml, hown, hts⟩ hl.1 (kX7_isIn l g x0.toInt64 (0 : Int64) (5 : Int64) o6 hc6) (va_cwS 3 hts gX7_isReader_X7_isIn rfl rfl rfl (by decide +kernel) ⟨Nat.le_of_ble_eq_true rfl, Nat.le_of_ble_eq_true rfl⟩) rfl hK hP hS hA (Nat.le_of_ble_eq_true rfl) dX7_isReader_6 ⟨Nat.zero_le _, Nat.zero_le _⟩ rfl (fun H locs hP hS => ?_)
  obtain ⟨z9, h⟩ := az_ite h
  have hP : va_P g.1 az_cl ([]) _ := hP
  have hD : va_D A ([]) := hD
  rw [← Option.some.inj h]
  exact az_zret hx hb hr hlocks (az_nar z9) hK hP hD hS dX7_isReader_9

def FX7_ofReader (V : az_St) (x1 : Int32) (x2 : Int32) : Option (Int32) := if az_in (((964 : Int32) + ((12 : Int32) * x1)) + x2) 1036 = true then some ((V 0) (((964 : Int32) + ((12 : Int32) * x1)) + x2).toNatClampNeg) else none
theorem inX7_ofReader_RX7 : ∀ w ∈ wsX70, w ∈ wsX7_ofReader := az_inr [2, 3, 4, 5, 6] (by decide +kernel)
set_option maxHeartbeats 4000000 in
set_option maxRecDepth 100000 in
theorem kX7_ofReader (l : Launch) (g : az_G) (ad : Nat → Nat) (V : az_St) (x1 : Int32) (x2 : Int32) (o : Int32) (h : FX7_ofReader V x1 x2 = some o) : az_I l yX7_ofReader wsX7_ofReader ({ frames := 0, cells := 0, slots := 0, locals := 0 } : Room) [.ref (ad 0), .int x1, .int x2] g (az_cM g ad V) o (az_cM g ad V) := by
  refine az_body (cc := cX7_ofReader) (maxL := 3) (ret := (some .int)) (Qc := fun A => az_QI g (az_cM g ad V) o A) (by decide +kernel) rfl (Nat.le_of_ble_eq_true rfl) ?_
  intro p e s m args below meth c A hx hb hr hts hown hml hlocks hA hK hP hD hS ls hl
  have hl : lv_has ls 3 [(0, .ref (ad 0)), (1, .int x1), (2, .int x2)] := hl
  unfold FX7_ofReader at h
  refine lv_aload_n hx hb dX7_ofReader_0 rfl (lv_at hl 0 rfl) ?_
  refine va_get (D := g.1) (ci := 7) (v := .ref (ad 1)) (C := RX7) (T := TX7) (N := 5) hx hb hts inX7_ofReader_RX7 hown hK hP 0 rfl rfl 0 (Nat.le_of_ble_eq_true rfl) (hts _ (List.mem_of_getElem? (i := 1) rfl)) (fun _ h9 => h9) rfl dX7_ofReader_1 ?_
  refine lv_sipush (v := (964 : Int32)) hx hb dX7_ofReader_4 (by decide) ?_
  refine lv_bipush (v := (12 : Int32)) hx hb dX7_ofReader_7 (by decide) ?_
  refine lv_iload_n hx hb dX7_ofReader_9 rfl (lv_at hl 1 rfl) ?_
  refine lv_imul hx hb dX7_ofReader_10 ?_
  refine lv_iadd hx hb dX7_ofReader_11 ?_
  refine lv_iload_n hx hb dX7_ofReader_12 rfl (lv_at hl 2 rfl) ?_
  refine lv_iadd hx hb dX7_ofReader_13 ?_
  obtain ⟨i14, h⟩ := az_ite h
  refine va_iald (D := g.1) (f := (V 0)) hx hb hK hP 1 0 rfl rfl (az_vin i14) dX7_ofReader_14 ?_
  have hP : va_P g.1 az_cl (az_cM g ad V) _ := hP
  have hD : va_D A (az_cM g ad V) := hD
  rw [← Option.some.inj h]
  exact az_iret hx hb hr hlocks hK hP hD hS dX7_ofReader_15

def FX7_setReader (V : az_St) (x1 : Int32) (x2 : Int32) (x3 : Int32) : Option ((Nat → Int32)) := if az_in (((964 : Int32) + ((12 : Int32) * x1)) + x2) 1036 = true then az_lt (upd (V 0) (((964 : Int32) + ((12 : Int32) * x1)) + x2).toNatClampNeg x3) (fun u15 => some (u15)) else none
theorem inX7_setReader_RX7 : ∀ w ∈ wsX70, w ∈ wsX7_setReader := az_inr [2, 3, 4, 5, 6] (by decide +kernel)
set_option maxHeartbeats 4000000 in
set_option maxRecDepth 100000 in
theorem kX7_setReader (l : Launch) (g : az_G) (ad : Nat → Nat) (V : az_St) (x1 : Int32) (x2 : Int32) (x3 : Int32) (o : (Nat → Int32)) (h : FX7_setReader V x1 x2 x3 = some o) : az_V l yX7_setReader wsX7_setReader ({ frames := 0, cells := 0, slots := 0, locals := 0 } : Room) [.ref (ad 0), .int x1, .int x2, .int x3] g (az_cM g ad V) (az_cM g ad (va_up V 0 o)) := by
  refine az_body (cc := cX7_setReader) (maxL := 4) (ret := none) (Qc := fun A => az_QV g (az_cM g ad (va_up V 0 o)) A) (by decide +kernel) rfl (Nat.le_of_ble_eq_true rfl) ?_
  intro p e s m args below meth c A hx hb hr hts hown hml hlocks hA hK hP hD hS ls hl
  have hl : lv_has ls 4 [(0, .ref (ad 0)), (1, .int x1), (2, .int x2), (3, .int x3)] := hl
  unfold FX7_setReader at h
  refine lv_aload_n hx hb dX7_setReader_0 rfl (lv_at hl 0 rfl) ?_
  refine va_get (D := g.1) (ci := 7) (v := .ref (ad 1)) (C := RX7) (T := TX7) (N := 5) hx hb hts inX7_setReader_RX7 hown hK hP 0 rfl rfl 0 (Nat.le_of_ble_eq_true rfl) (hts _ (List.mem_of_getElem? (i := 1) rfl)) (fun _ h9 => h9) rfl dX7_setReader_1 ?_
  refine lv_sipush (v := (964 : Int32)) hx hb dX7_setReader_4 (by decide) ?_
  refine lv_bipush (v := (12 : Int32)) hx hb dX7_setReader_7 (by decide) ?_
  refine lv_iload_n hx hb dX7_setReader_9 rfl (lv_at hl 1 rfl) ?_
  refine lv_imul hx hb dX7_setReader_10 ?_
  refine lv_iadd hx hb dX7_setReader_11 ?_
  refine lv_iload_n hx hb dX7_setReader_12 rfl (lv_at hl 2 rfl) ?_
  refine lv_iadd hx hb dX7_setReader_13 ?_
  refine lv_iload_n hx hb dX7_setReader_14 rfl (lv_at hl 3 rfl) ?_
  obtain ⟨i15, h⟩ := az_ite h
  refine va_iast (D := g.1) (f := (V 0)) hx hb hK hP hD hS 1 0 rfl rfl (az_vin i15) dX7_setReader_15 (fun H locs hP hD hS => ?_)
  obtain ⟨u15, e15⟩ : ∃ w : Nat → Int32, w = upd (V 0) (((964 : Int32) + ((12 : Int32) * x1)) + x2).toNatClampNeg x3 := ⟨_, rfl⟩
  have hP : va_P g.1 az_cl (az_cM g ad (va_up V 0 u15)) H := by rw [e15]; exact hP
  have hD : va_D A (az_cM g ad (va_up V 0 u15)) := by rw [e15]; exact hD
  replace h := az_let e15 h
  have hP : va_P g.1 az_cl (az_cM g ad (va_up V 0 u15)) _ := hP
  have hD : va_D A (az_cM g ad (va_up V 0 u15)) := hD
  rw [← Option.some.inj h]
  exact az_vret hx hb hr hlocks hK hP hD hS dX7_setReader_16

def FX7_isInside (V : az_St) (x1 : Int32) : Option (Int32) := (FX7_ofReader V x1 (0 : Int32)).bind (fun o3 => if o3 = (1 : Int32) then (some ((1 : Int32))) else (some ((0 : Int32))))
set_option maxHeartbeats 4000000 in
set_option maxRecDepth 100000 in
theorem kX7_isInside (l : Launch) (g : az_G) (ad : Nat → Nat) (V : az_St) (x1 : Int32) (o : Int32) (h : FX7_isInside V x1 = some o) : az_I l yX7_isInside wsX7_isInside ({ frames := 1, cells := 0, slots := 0, locals := 22 } : Room) [.ref (ad 0), .int x1] g (az_cM g ad V) o (az_cM g ad V) := by
  refine az_body (cc := cX7_isInside) (maxL := 2) (ret := (some .boolean)) (Qc := fun A => az_QI g (az_cM g ad V) o A) (by decide +kernel) rfl (Nat.le_of_ble_eq_true rfl) ?_
  intro p e s m args below meth c A hx hb hr hts hown hml hlocks hA hK hP hD hS ls hl
  have hl : lv_has ls 2 [(0, .ref (ad 0)), (1, .int x1)] := hl
  unfold FX7_isInside at h
  refine lv_aload_n hx hb dX7_isInside_0 rfl (lv_at hl 0 rfl) ?_
  refine lv_iload_n hx hb dX7_isInside_1 rfl (lv_at hl 1 rfl) ?_
  refine lv_iconst (v := (0 : Int32)) hx hb dX7_isInside_2 (by decide) ?_
  obtain ⟨o3, hc3, h⟩ := az_bnd h
  refine az_callVi (w2 := az_cM g ad V) (As := [.int x1, .int (0 : Int32)]) (rest := []) ⟨hx, hb, hml, hown, hts⟩ hl.1 (kX7_ofReader l g ad V x1 (0 : Int32) o3 hc3) (cwV 2 hts gX7_isInside_X7_ofReader rfl rfl rfl (by decide +kernel) ⟨Nat.le_of_ble_eq_true rfl, Nat.le_of_ble_eq_true rfl⟩) rfl hK hP hD hS hA [0, 1, 2, 3] [] [0, 1, 2, 3] rfl rfl rfl rfl rfl (by decide) rfl rfl rfl 0 rfl rfl rfl (Nat.le_of_ble_eq_true rfl) dX7_isInside_3 ⟨Nat.zero_le _, Nat.zero_le _⟩ rfl (fun H locs hP hD hS => ?_)
  refine lv_iconst (v := (1 : Int32)) hx hb dX7_isInside_6 (by decide) ?_
  refine lv_icmp_ne (tgt := 14) hx hb dX7_isInside_7 (by decide) (fun c7 => ?_) (fun c7 => ?_)
  · replace h := az_neg c7 h
    refine lv_iconst (v := (0 : Int32)) hx hb dX7_isInside_14 (by decide) ?_
    have hP : va_P g.1 az_cl (az_cM g ad V) _ := hP
    have hD : va_D A (az_cM g ad V) := hD
    rw [← Option.some.inj h]
    exact az_zret hx hb hr hlocks (az_nar (r := (0 : Int32)) (by decide +kernel)) hK hP hD hS dX7_isInside_15
  · replace h := az_pos c7 h
    refine lv_iconst (v := (1 : Int32)) hx hb dX7_isInside_10 (by decide) ?_
    refine lv_goto (tgt := 15) hx hb dX7_isInside_11 (by decide) ?_
    have hP : va_P g.1 az_cl (az_cM g ad V) _ := hP
    have hD : va_D A (az_cM g ad V) := hD
    rw [← Option.some.inj h]
    exact az_zret hx hb hr hlocks (az_nar (r := (1 : Int32)) (by decide +kernel)) hK hP hD hS dX7_isInside_15

def FX7_holds (V : az_St) (x1 : Int32) (x2 : Int32) : Option (Int32) := (FX7_ofReader V x1 ((2 : Int32) + (x2 / (16 : Int32)))).bind (fun o8 => if (o8 >>> ((x2 - x2 / (16 : Int32) * (16 : Int32)) &&& 31)) &&& (1 : Int32) = (1 : Int32) then (some ((1 : Int32))) else (some ((0 : Int32))))
set_option maxHeartbeats 4000000 in
set_option maxRecDepth 100000 in
theorem kX7_holds (l : Launch) (g : az_G) (ad : Nat → Nat) (V : az_St) (x1 : Int32) (x2 : Int32) (o : Int32) (h : FX7_holds V x1 x2 = some o) : az_I l yX7_holds wsX7_holds ({ frames := 1, cells := 0, slots := 0, locals := 22 } : Room) [.ref (ad 0), .int x1, .int x2] g (az_cM g ad V) o (az_cM g ad V) := by
  refine az_body (cc := cX7_holds) (maxL := 3) (ret := (some .boolean)) (Qc := fun A => az_QI g (az_cM g ad V) o A) (by decide +kernel) rfl (Nat.le_of_ble_eq_true rfl) ?_
  intro p e s m args below meth c A hx hb hr hts hown hml hlocks hA hK hP hD hS ls hl
  have hl : lv_has ls 3 [(0, .ref (ad 0)), (1, .int x1), (2, .int x2)] := hl
  unfold FX7_holds at h
  refine lv_aload_n hx hb dX7_holds_0 rfl (lv_at hl 0 rfl) ?_
  refine lv_iload_n hx hb dX7_holds_1 rfl (lv_at hl 1 rfl) ?_
  refine lv_iconst (v := (2 : Int32)) hx hb dX7_holds_2 (by decide) ?_
  refine lv_iload_n hx hb dX7_holds_3 rfl (lv_at hl 2 rfl) ?_
  refine lv_bipush (v := (16 : Int32)) hx hb dX7_holds_4 (by decide) ?_
  refine lv_idiv hx hb dX7_holds_6 (by decide) ?_
  refine lv_iadd hx hb dX7_holds_7 ?_
  obtain ⟨o8, hc8, h⟩ := az_bnd h
  refine az_callVi (w2 := az_cM g ad V) (As := [.int x1, .int ((2 : Int32) + (x2 / (16 : Int32)))]) (rest := []) ⟨hx, hb, hml, hown, hts⟩ hl.1 (kX7_ofReader l g ad V x1 ((2 : Int32) + (x2 / (16 : Int32))) o8 hc8) (cwV 2 hts gX7_holds_X7_ofReader rfl rfl rfl (by decide +kernel) ⟨Nat.le_of_ble_eq_true rfl, Nat.le_of_ble_eq_true rfl⟩) rfl hK hP hD hS hA [0, 1, 2, 3] [] [0, 1, 2, 3] rfl rfl rfl rfl rfl (by decide) rfl rfl rfl 0 rfl rfl rfl (Nat.le_of_ble_eq_true rfl) dX7_holds_8 ⟨Nat.zero_le _, Nat.zero_le _⟩ rfl (fun H locs hP hD hS => ?_)
  refine lv_iload_n hx hb dX7_holds_11 rfl (lv_at hl 2 rfl) ?_
  refine lv_bipush (v := (16 : Int32)) hx hb dX7_holds_12 (by decide) ?_
  refine lv_irem hx hb dX7_holds_14 (by decide) ?_
  refine lv_ishr hx hb dX7_holds_15 ?_
  refine lv_iconst (v := (1 : Int32)) hx hb dX7_holds_16 (by decide) ?_
  refine lv_iand hx hb dX7_holds_17 ?_
  refine lv_iconst (v := (1 : Int32)) hx hb dX7_holds_18 (by decide) ?_
  refine lv_icmp_ne (tgt := 26) hx hb dX7_holds_19 (by decide) (fun c19 => ?_) (fun c19 => ?_)
  · replace h := az_neg c19 h
    refine lv_iconst (v := (0 : Int32)) hx hb dX7_holds_26 (by decide) ?_
    have hP : va_P g.1 az_cl (az_cM g ad V) _ := hP
    have hD : va_D A (az_cM g ad V) := hD
    rw [← Option.some.inj h]
    exact az_zret hx hb hr hlocks (az_nar (r := (0 : Int32)) (by decide +kernel)) hK hP hD hS dX7_holds_27
  · replace h := az_pos c19 h
    refine lv_iconst (v := (1 : Int32)) hx hb dX7_holds_22 (by decide) ?_
    refine lv_goto (tgt := 27) hx hb dX7_holds_23 (by decide) ?_
    have hP : va_P g.1 az_cl (az_cM g ad V) _ := hP
    have hD : va_D A (az_cM g ad V) := hD
    rw [← Option.some.inj h]
    exact az_zret hx hb hr hlocks (az_nar (r := (1 : Int32)) (by decide +kernel)) hK hP hD hS dX7_holds_27

def FX7_heldBy_L4 : Nat → az_St → Int32 → Int32 → Int32 → Option (Int32)
  | 0, _, _, _, _ => none
  | n + 1, V, x1, y2, y3 => if (10 : Int32) ≤ y3 then (some (y2)) else ((FX7_ofReader V x1 ((2 : Int32) + y3)).bind (fun o16 => (FJ6_bitCount_0f7a4 o16).bind (fun o19 => FX7_heldBy_L4 n V x1 (y2 + o19) (y3 + (1 : Int32)))))
theorem FX7_heldBy_L4_s (n : Nat) (V : az_St) (x1 : Int32) (y2 : Int32) (y3 : Int32) : FX7_heldBy_L4 (n + 1) V x1 y2 y3 = (if (10 : Int32) ≤ y3 then (some (y2)) else ((FX7_ofReader V x1 ((2 : Int32) + y3)).bind (fun o16 => (FJ6_bitCount_0f7a4 o16).bind (fun o19 => FX7_heldBy_L4 n V x1 (y2 + o19) (y3 + (1 : Int32)))))) := rfl
def FX7_heldBy (V : az_St) (x1 : Int32) : Option (Int32) := FX7_heldBy_L4 az_fuel V x1 (0 : Int32) (0 : Int32)
set_option maxHeartbeats 4000000 in
set_option maxRecDepth 100000 in
theorem kX7_heldBy (l : Launch) (g : az_G) (ad : Nat → Nat) (V : az_St) (x1 : Int32) (o : Int32) (h : FX7_heldBy V x1 = some o) : az_I l yX7_heldBy wsX7_heldBy ({ frames := 1, cells := 0, slots := 0, locals := 22 } : Room) [.ref (ad 0), .int x1] g (az_cM g ad V) o (az_cM g ad V) := by
  refine az_body (cc := cX7_heldBy) (maxL := 4) (ret := (some .int)) (Qc := fun A => az_QI g (az_cM g ad V) o A) (by decide +kernel) rfl (Nat.le_of_ble_eq_true rfl) ?_
  intro p e s m args below meth c A hx hb hr hts hown hml hlocks hA hK hP hD hS ls hl
  have hl : lv_has ls 4 [(0, .ref (ad 0)), (1, .int x1)] := hl
  unfold FX7_heldBy at h
  have hL4 : ∀ (n : Nat) (y2 : Int32) (y3 : Int32) (H : Heap) (locs : List Loc) (ls : Array Slot), FX7_heldBy_L4 n V x1 y2 y3 = some o → va_P g.1 az_cl (az_cM g ad V) H → va_D A (az_cM g ad V) → va_S A s.heap H locs → lv_has ls 4 [(0, .ref (ad 0)), (1, .int x1), (2, .int y2), (3, .int y3)] → W p l e ({ frames := 1, cells := 0, slots := 0, locals := 22 } : Room) s m args below meth c H locs 0 0 (MQ below (az_QI g (az_cM g ad V) o A) args s 0 0 A) (F0 m 4 ls []) := by
    intro n
    induction n with
    | zero => intro y2 y3 H locs ls h; exact az_non h
    | succ n ih =>
      intro y2 y3 H locs ls h hP hD hS hl
      rw [FX7_heldBy_L4_s] at h
      refine lv_iload_n hx hb dX7_heldBy_4 rfl (lv_at hl 3 rfl) ?_
      refine lv_bipush (v := (10 : Int32)) hx hb dX7_heldBy_5 (by decide) ?_
      refine lv_icmp_ge (tgt := 30) hx hb dX7_heldBy_7 (by decide) (fun c7 => ?_) (fun c7 => ?_)
      · replace h := az_pos c7 h
        refine lv_iload_n hx hb dX7_heldBy_30 rfl (lv_at hl 2 rfl) ?_
        have hP : va_P g.1 az_cl (az_cM g ad V) _ := hP
        have hD : va_D A (az_cM g ad V) := hD
        rw [← Option.some.inj h]
        exact az_iret hx hb hr hlocks hK hP hD hS dX7_heldBy_31
      · replace h := az_neg c7 h
        refine lv_iload_n hx hb dX7_heldBy_10 rfl (lv_at hl 2 rfl) ?_
        refine lv_aload_n hx hb dX7_heldBy_11 rfl (lv_at hl 0 rfl) ?_
        refine lv_iload_n hx hb dX7_heldBy_12 rfl (lv_at hl 1 rfl) ?_
        refine lv_iconst (v := (2 : Int32)) hx hb dX7_heldBy_13 (by decide) ?_
        refine lv_iload_n hx hb dX7_heldBy_14 rfl (lv_at hl 3 rfl) ?_
        refine lv_iadd hx hb dX7_heldBy_15 ?_
        obtain ⟨o16, hc16, h⟩ := az_bnd h
        refine az_callVi (w2 := az_cM g ad V) (As := [.int x1, .int ((2 : Int32) + y3)]) (rest := [.int y2]) ⟨hx, hb, hml, hown, hts⟩ hl.1 (kX7_ofReader l g ad V x1 ((2 : Int32) + y3) o16 hc16) (cwV 2 hts gX7_heldBy_X7_ofReader rfl rfl rfl (by decide +kernel) ⟨Nat.le_of_ble_eq_true rfl, Nat.le_of_ble_eq_true rfl⟩) rfl hK hP hD hS hA [0, 1, 2, 3] [] [0, 1, 2, 3] rfl rfl rfl rfl rfl (by decide) rfl rfl rfl 0 rfl rfl rfl (Nat.le_of_ble_eq_true rfl) dX7_heldBy_16 ⟨Nat.zero_le _, Nat.zero_le _⟩ rfl (fun H locs hP hD hS => ?_)
        obtain ⟨o19, hc19, h⟩ := az_bnd h
        refine az_callS0 (As := [.int o16]) (rest := [.int y2]) ⟨hx, hb, hml, hown, hts⟩ hl.1 (kJ6_bitCount_0f7a4 l g o16 o19 hc19) (va_cwS 1 hts gX7_heldBy_J6_bitCount_0f7a4 rfl rfl rfl (by decide +kernel) ⟨Nat.le_of_ble_eq_true rfl, Nat.le_of_ble_eq_true rfl⟩) rfl hK hP hS hA (Nat.le_of_ble_eq_true rfl) dX7_heldBy_19 ⟨Nat.zero_le _, Nat.zero_le _⟩ rfl (fun H locs hP hS => ?_)
        refine lv_iadd hx hb dX7_heldBy_22 ?_
        refine lv_istore_n (lv' := [(2, .int (y2 + o19)), (0, .ref (ad 0)), (1, .int x1), (3, .int y3)]) hx hb dX7_heldBy_23 rfl hl (by decide) rfl (fun ls hl => ?_)
        refine lv_iinc (v := y3 + (1 : Int32)) (lv' := [(3, .int (y3 + (1 : Int32))), (2, .int (y2 + o19)), (0, .ref (ad 0)), (1, .int x1)]) hx hb dX7_heldBy_24 hl (k := 3) rfl (rfl) (by decide) rfl (fun ls hl => ?_)
        refine lv_goto (tgt := 4) hx hb dX7_heldBy_27 (by decide) ?_
        have hP : va_P g.1 az_cl (az_cM g ad V) _ := hP
        have hD : va_D A (az_cM g ad V) := hD
        exact ih (y2 + o19) (y3 + (1 : Int32)) _ _ ls h hP hD hS (lv_sub hl [2, 3, 1, 0] rfl)
  refine lv_iconst (v := (0 : Int32)) hx hb dX7_heldBy_0 (by decide) ?_
  refine lv_istore_n (lv' := [(2, .int (0 : Int32)), (0, .ref (ad 0)), (1, .int x1)]) hx hb dX7_heldBy_1 rfl hl (by decide) rfl (fun ls hl => ?_)
  refine lv_iconst (v := (0 : Int32)) hx hb dX7_heldBy_2 (by decide) ?_
  refine lv_istore_n (lv' := [(3, .int (0 : Int32)), (2, .int (0 : Int32)), (0, .ref (ad 0)), (1, .int x1)]) hx hb dX7_heldBy_3 rfl hl (by decide) rfl (fun ls hl => ?_)
  have hP : va_P g.1 az_cl (az_cM g ad V) _ := hP
  have hD : va_D A (az_cM g ad V) := hD
  exact hL4 az_fuel (0 : Int32) (0 : Int32) _ _ ls h hP hD hS (lv_sub hl [2, 3, 1, 0] rfl)

def FX7_lets_L9 : Nat → az_St → Int32 → Int32 → (Nat → Int32) → Int32 → Int32 → Option (Int32 × (Nat → Int32))
  | 0, _, _, _, _, _, _ => none
  | n + 1, V, x1, x2, wV0, y3, y4 => if (10 : Int32) ≤ y4 then ((FX7_setReader (va_up V 0 wV0) x1 (0 : Int32) x2).bind (fun o36 => (FX7_setReader (va_up V 0 o36) x1 (1 : Int32) (o36 (3 : Int32).toNatClampNeg)).bind (fun o48 => some (y3, o48)))) else ((FX7_setReader (va_up V 0 wV0) x1 ((2 : Int32) + y4) (0 : Int32)).bind (fun o23 => FX7_lets_L9 n V x1 x2 o23 y3 (y4 + (1 : Int32))))
theorem FX7_lets_L9_s (n : Nat) (V : az_St) (x1 : Int32) (x2 : Int32) (wV0 : Nat → Int32) (y3 : Int32) (y4 : Int32) : FX7_lets_L9 (n + 1) V x1 x2 wV0 y3 y4 = (if (10 : Int32) ≤ y4 then ((FX7_setReader (va_up V 0 wV0) x1 (0 : Int32) x2).bind (fun o36 => (FX7_setReader (va_up V 0 o36) x1 (1 : Int32) (o36 (3 : Int32).toNatClampNeg)).bind (fun o48 => some (y3, o48)))) else ((FX7_setReader (va_up V 0 wV0) x1 ((2 : Int32) + y4) (0 : Int32)).bind (fun o23 => FX7_lets_L9 n V x1 x2 o23 y3 (y4 + (1 : Int32))))) := rfl
def FX7_lets (V : az_St) (x1 : Int32) (x2 : Int32) : Option (Int32 × (Nat → Int32)) := (FX7_heldBy V x1).bind (fun o2 => FX7_lets_L9 az_fuel V x1 x2 (V 0) o2 (0 : Int32))
theorem inX7_lets_RX7 : ∀ w ∈ wsX70, w ∈ wsX7_lets := az_inr [22, 23, 24, 25, 26] (by decide +kernel)
set_option maxHeartbeats 4000000 in
set_option maxRecDepth 100000 in
theorem kX7_lets (l : Launch) (g : az_G) (ad : Nat → Nat) (V : az_St) (x1 : Int32) (x2 : Int32) (o : Int32 × (Nat → Int32)) (h : FX7_lets V x1 x2 = some o) : az_I l yX7_lets wsX7_lets ({ frames := 2, cells := 0, slots := 0, locals := 45 } : Room) [.ref (ad 0), .int x1, .int x2] g (az_cM g ad V) o.1 (az_cM g ad (va_up V 0 o.2)) := by
  refine az_body (cc := cX7_lets) (maxL := 5) (ret := (some .int)) (Qc := fun A => az_QI g (az_cM g ad (va_up V 0 o.2)) o.1 A) (by decide +kernel) rfl (Nat.le_of_ble_eq_true rfl) ?_
  intro p e s m args below meth c A hx hb hr hts hown hml hlocks hA hK hP hD hS ls hl
  have hl : lv_has ls 5 [(0, .ref (ad 0)), (1, .int x1), (2, .int x2)] := hl
  unfold FX7_lets at h
  have hL9 : ∀ (n : Nat) (wV0 : Nat → Int32) (y3 : Int32) (y4 : Int32) (H : Heap) (locs : List Loc) (ls : Array Slot), FX7_lets_L9 n V x1 x2 wV0 y3 y4 = some o → va_P g.1 az_cl (az_cM g ad (va_up V 0 wV0)) H → va_D A (az_cM g ad (va_up V 0 wV0)) → va_S A s.heap H locs → lv_has ls 5 [(0, .ref (ad 0)), (1, .int x1), (2, .int x2), (3, .int y3), (4, .int y4)] → W p l e ({ frames := 2, cells := 0, slots := 0, locals := 45 } : Room) s m args below meth c H locs 0 0 (MQ below (az_QI g (az_cM g ad (va_up V 0 o.2)) o.1 A) args s 0 0 A) (F0 m 9 ls []) := by
    intro n
    induction n with
    | zero => intro wV0 y3 y4 H locs ls h; exact az_non h
    | succ n ih =>
      intro wV0 y3 y4 H locs ls h hP hD hS hl
      rw [FX7_lets_L9_s] at h
      refine lv_iload hx hb dX7_lets_9 (lv_at hl 4 rfl) ?_
      refine lv_bipush (v := (10 : Int32)) hx hb dX7_lets_11 (by decide) ?_
      refine lv_icmp_ge (tgt := 32) hx hb dX7_lets_13 (by decide) (fun c13 => ?_) (fun c13 => ?_)
      · replace h := az_pos c13 h
        refine lv_aload_n hx hb dX7_lets_32 rfl (lv_at hl 0 rfl) ?_
        refine lv_iload_n hx hb dX7_lets_33 rfl (lv_at hl 1 rfl) ?_
        refine lv_iconst (v := (0 : Int32)) hx hb dX7_lets_34 (by decide) ?_
        refine lv_iload_n hx hb dX7_lets_35 rfl (lv_at hl 2 rfl) ?_
        obtain ⟨o36, hc36, h⟩ := az_bnd h
        refine az_callVv (w2 := az_cM g ad (va_up V 0 o36)) (As := [.int x1, .int (0 : Int32), .int x2]) (rest := []) ⟨hx, hb, hml, hown, hts⟩ hl.1 (kX7_setReader l g ad (va_up V 0 wV0) x1 (0 : Int32) x2 o36 hc36) (cwV 3 hts gX7_lets_X7_setReader rfl rfl rfl (by decide +kernel) ⟨Nat.le_of_ble_eq_true rfl, Nat.le_of_ble_eq_true rfl⟩) rfl hK hP hD hS hA [0, 1, 2, 3] [] [0, 1, 2, 3] rfl rfl rfl rfl rfl (by decide) rfl rfl rfl 0 rfl rfl rfl (Nat.le_of_ble_eq_true rfl) dX7_lets_36 ⟨Nat.zero_le _, Nat.zero_le _⟩ rfl (fun H locs hP hD hS => ?_)
        refine lv_aload_n hx hb dX7_lets_39 rfl (lv_at hl 0 rfl) ?_
        refine lv_iload_n hx hb dX7_lets_40 rfl (lv_at hl 1 rfl) ?_
        refine lv_iconst (v := (1 : Int32)) hx hb dX7_lets_41 (by decide) ?_
        refine lv_aload_n hx hb dX7_lets_42 rfl (lv_at hl 0 rfl) ?_
        refine va_get (D := g.1) (ci := 7) (v := .ref (ad 1)) (C := RX7) (T := TX7) (N := 5) hx hb hts inX7_lets_RX7 hown hK hP 0 rfl rfl 0 (Nat.le_of_ble_eq_true rfl) (hts _ (List.mem_of_getElem? (i := 1) rfl)) (fun _ h9 => h9) rfl dX7_lets_43 ?_
        refine lv_iconst (v := (3 : Int32)) hx hb dX7_lets_46 (by decide) ?_
        refine va_iald (D := g.1) (f := o36) hx hb hK hP 1 0 rfl rfl (az_vin (by decide +kernel)) dX7_lets_47 ?_
        obtain ⟨o48, hc48, h⟩ := az_bnd h
        refine az_callVv (w2 := az_cM g ad (va_up V 0 o48)) (As := [.int x1, .int (1 : Int32), .int (o36 (3 : Int32).toNatClampNeg)]) (rest := []) ⟨hx, hb, hml, hown, hts⟩ hl.1 (kX7_setReader l g ad (va_up V 0 o36) x1 (1 : Int32) (o36 (3 : Int32).toNatClampNeg) o48 hc48) (cwV 3 hts gX7_lets_X7_setReader rfl rfl rfl (by decide +kernel) ⟨Nat.le_of_ble_eq_true rfl, Nat.le_of_ble_eq_true rfl⟩) rfl hK hP hD hS hA [0, 1, 2, 3] [] [0, 1, 2, 3] rfl rfl rfl rfl rfl (by decide) rfl rfl rfl 0 rfl rfl rfl (Nat.le_of_ble_eq_true rfl) dX7_lets_48 ⟨Nat.zero_le _, Nat.zero_le _⟩ rfl (fun H locs hP hD hS => ?_)
        refine lv_iload_n hx hb dX7_lets_51 rfl (lv_at hl 3 rfl) ?_
        have hP : va_P g.1 az_cl (az_cM g ad (va_up V 0 o48)) _ := hP
        have hD : va_D A (az_cM g ad (va_up V 0 o48)) := hD
        rw [← Option.some.inj h]
        exact az_iret hx hb hr hlocks hK hP hD hS dX7_lets_52
      · replace h := az_neg c13 h
        refine lv_aload_n hx hb dX7_lets_16 rfl (lv_at hl 0 rfl) ?_
        refine lv_iload_n hx hb dX7_lets_17 rfl (lv_at hl 1 rfl) ?_
        refine lv_iconst (v := (2 : Int32)) hx hb dX7_lets_18 (by decide) ?_
        refine lv_iload hx hb dX7_lets_19 (lv_at hl 4 rfl) ?_
        refine lv_iadd hx hb dX7_lets_21 ?_
        refine lv_iconst (v := (0 : Int32)) hx hb dX7_lets_22 (by decide) ?_
        obtain ⟨o23, hc23, h⟩ := az_bnd h
        refine az_callVv (w2 := az_cM g ad (va_up V 0 o23)) (As := [.int x1, .int ((2 : Int32) + y4), .int (0 : Int32)]) (rest := []) ⟨hx, hb, hml, hown, hts⟩ hl.1 (kX7_setReader l g ad (va_up V 0 wV0) x1 ((2 : Int32) + y4) (0 : Int32) o23 hc23) (cwV 3 hts gX7_lets_X7_setReader rfl rfl rfl (by decide +kernel) ⟨Nat.le_of_ble_eq_true rfl, Nat.le_of_ble_eq_true rfl⟩) rfl hK hP hD hS hA [0, 1, 2, 3] [] [0, 1, 2, 3] rfl rfl rfl rfl rfl (by decide) rfl rfl rfl 0 rfl rfl rfl (Nat.le_of_ble_eq_true rfl) dX7_lets_23 ⟨Nat.zero_le _, Nat.zero_le _⟩ rfl (fun H locs hP hD hS => ?_)
        refine lv_iinc (v := y4 + (1 : Int32)) (lv' := [(4, .int (y4 + (1 : Int32))), (0, .ref (ad 0)), (1, .int x1), (2, .int x2), (3, .int y3)]) hx hb dX7_lets_26 hl (k := 4) rfl (rfl) (by decide) rfl (fun ls hl => ?_)
        refine lv_goto (tgt := 9) hx hb dX7_lets_29 (by decide) ?_
        have hP : va_P g.1 az_cl (az_cM g ad (va_up V 0 o23)) _ := hP
        have hD : va_D A (az_cM g ad (va_up V 0 o23)) := hD
        exact ih o23 y3 (y4 + (1 : Int32)) _ _ ls h hP hD hS (lv_sub hl [1, 2, 3, 4, 0] rfl)
  refine lv_aload_n hx hb dX7_lets_0 rfl (lv_at hl 0 rfl) ?_
  refine lv_iload_n hx hb dX7_lets_1 rfl (lv_at hl 1 rfl) ?_
  obtain ⟨o2, hc2, h⟩ := az_bnd h
  refine az_callVi (w2 := az_cM g ad V) (As := [.int x1]) (rest := []) ⟨hx, hb, hml, hown, hts⟩ hl.1 (kX7_heldBy l g ad V x1 o2 hc2) (cwV 1 hts gX7_lets_X7_heldBy rfl rfl rfl (by decide +kernel) ⟨Nat.le_of_ble_eq_true rfl, Nat.le_of_ble_eq_true rfl⟩) rfl hK hP hD hS hA [0, 1, 2, 3] [] [0, 1, 2, 3] rfl rfl rfl rfl rfl (by decide) rfl rfl rfl 0 rfl rfl rfl (Nat.le_of_ble_eq_true rfl) dX7_lets_2 ⟨Nat.zero_le _, Nat.zero_le _⟩ rfl (fun H locs hP hD hS => ?_)
  refine lv_istore_n (lv' := [(3, .int o2), (0, .ref (ad 0)), (1, .int x1), (2, .int x2)]) hx hb dX7_lets_5 rfl hl (by decide) rfl (fun ls hl => ?_)
  refine lv_iconst (v := (0 : Int32)) hx hb dX7_lets_6 (by decide) ?_
  refine lv_istore (lv' := [(4, .int (0 : Int32)), (3, .int o2), (0, .ref (ad 0)), (1, .int x1), (2, .int x2)]) hx hb dX7_lets_7 hl (by decide) rfl (fun ls hl => ?_)
  have hP : va_P g.1 az_cl (az_cM g ad (va_up V 0 (V 0))) _ := hP
  have hD : va_D A (az_cM g ad (va_up V 0 (V 0))) := hD
  exact hL9 az_fuel (V 0) o2 (0 : Int32) _ _ ls h hP hD hS (lv_sub hl [2, 3, 4, 1, 0] rfl)

def FX7_enter (V : az_St) (x1 : Int32) : Option (Int32 × (Nat → Int32) × (Nat → Int32) × (Nat → Int32)) := (FX7_isReader x1).bind (fun o2 => if o2 = (0 : Int32) then (az_lt (upd (V 2) 1 (1 : Int32)) (fun u25 => if u25 1 ≤ (0 : Int32) then ((FX7_keeps (va_up V 2 u25)).bind (fun o38 => (FX7_lets (va_up (va_up V 1 o38.1) 2 o38.2) x1 (1 : Int32)).bind (fun o44 => some (o44.2 (3 : Int32).toNatClampNeg, o44.2, o38.1, o38.2)))) else (some ((0 : Int32), (V 0), (V 1), u25)))) else ((FX7_isInside V x1).bind (fun o14 => if o14 = (0 : Int32) then (az_lt (upd (V 2) 1 (0 : Int32)) (fun u25 => if u25 1 ≤ (0 : Int32) then ((FX7_keeps (va_up V 2 u25)).bind (fun o38 => (FX7_lets (va_up (va_up V 1 o38.1) 2 o38.2) x1 (1 : Int32)).bind (fun o44 => some (o44.2 (3 : Int32).toNatClampNeg, o44.2, o38.1, o38.2)))) else (some ((0 : Int32), (V 0), (V 1), u25)))) else (az_lt (upd (V 2) 1 (2 : Int32)) (fun u25 => if u25 1 ≤ (0 : Int32) then ((FX7_keeps (va_up V 2 u25)).bind (fun o38 => (FX7_lets (va_up (va_up V 1 o38.1) 2 o38.2) x1 (1 : Int32)).bind (fun o44 => some (o44.2 (3 : Int32).toNatClampNeg, o44.2, o38.1, o38.2)))) else (some ((0 : Int32), (V 0), (V 1), u25)))))))
theorem inX7_enter_RX7 : ∀ w ∈ wsX70, w ∈ wsX7_enter := az_inr [44, 45, 46, 47, 48] (by decide +kernel)
set_option maxHeartbeats 4000000 in
set_option maxRecDepth 100000 in
theorem kX7_enter (l : Launch) (g : az_G) (ad : Nat → Nat) (V : az_St) (x1 : Int32) (o : Int32 × (Nat → Int32) × (Nat → Int32) × (Nat → Int32)) (h : FX7_enter V x1 = some o) : az_I l yX7_enter wsX7_enter ({ frames := 3, cells := 0, slots := 0, locals := 69 } : Room) [.ref (ad 0), .int x1] g (az_cM g ad V) o.1 (az_cM g ad (va_up (va_up (va_up V 0 o.2.1) 1 o.2.2.1) 2 o.2.2.2)) := by
  refine az_body (cc := cX7_enter) (maxL := 3) (ret := (some .int)) (Qc := fun A => az_QI g (az_cM g ad (va_up (va_up (va_up V 0 o.2.1) 1 o.2.2.1) 2 o.2.2.2)) o.1 A) (by decide +kernel) rfl (Nat.le_of_ble_eq_true rfl) ?_
  intro p e s m args below meth c A hx hb hr hts hown hml hlocks hA hK hP hD hS ls hl
  have hl : lv_has ls 3 [(0, .ref (ad 0)), (1, .int x1)] := hl
  unfold FX7_enter at h
  refine lv_aload_n hx hb dX7_enter_0 rfl (lv_at hl 0 rfl) ?_
  refine lv_iload_n hx hb dX7_enter_1 rfl (lv_at hl 1 rfl) ?_
  obtain ⟨o2, hc2, h⟩ := az_bnd h
  refine az_callS0 (As := [.int x1]) (rest := [.ref (ad 0)]) ⟨hx, hb, hml, hown, hts⟩ hl.1 (kX7_isReader l g x1 o2 hc2) (va_cwS 1 hts gX7_enter_X7_isReader rfl rfl rfl (by decide +kernel) ⟨Nat.le_of_ble_eq_true rfl, Nat.le_of_ble_eq_true rfl⟩) rfl hK hP hS hA (Nat.le_of_ble_eq_true rfl) dX7_enter_2 ⟨Nat.zero_le _, Nat.zero_le _⟩ rfl (fun H locs hP hS => ?_)
  refine lv_if_ne (tgt := 12) hx hb dX7_enter_5 (by decide) (fun c5 => ?_) (fun c5 => ?_)
  · replace h := az_neg c5 h
    refine lv_aload_n hx hb dX7_enter_12 rfl (lv_at hl 0 rfl) ?_
    refine lv_iload_n hx hb dX7_enter_13 rfl (lv_at hl 1 rfl) ?_
    obtain ⟨o14, hc14, h⟩ := az_bnd h
    refine az_callVi (w2 := az_cM g ad V) (As := [.int x1]) (rest := [.ref (ad 0)]) ⟨hx, hb, hml, hown, hts⟩ hl.1 (kX7_isInside l g ad V x1 o14 hc14) (cwV 1 hts gX7_enter_X7_isInside rfl rfl rfl (by decide +kernel) ⟨Nat.le_of_ble_eq_true rfl, Nat.le_of_ble_eq_true rfl⟩) rfl hK hP hD hS hA [0, 1, 2, 3] [] [0, 1, 2, 3] rfl rfl rfl rfl rfl (by decide) rfl rfl rfl 0 rfl rfl rfl (Nat.le_of_ble_eq_true rfl) dX7_enter_14 ⟨Nat.zero_le _, Nat.zero_le _⟩ rfl (fun H locs hP hD hS => ?_)
    refine lv_if_eq (tgt := 24) hx hb dX7_enter_17 (by decide) (fun c17 => ?_) (fun c17 => ?_)
    · replace h := az_pos c17 h
      refine lv_iconst (v := (0 : Int32)) hx hb dX7_enter_24 (by decide) ?_
      refine va_put (D := g.1) (ci := 7) (v := .int (0 : Int32)) (ty := .int) (C := RX7) (T := TX7) (N := 5) hx hb hts inX7_enter_RX7 tyX7 tyX7_ok nmX7 hown hK hP hD hS 0 rfl rfl 3 (Nat.le_of_ble_eq_true rfl) (hts _ (List.mem_of_getElem? (i := 1) rfl)) (fun _ h9 => h9) rfl (by decide +kernel) rfl rfl (Nat.le_of_ble_eq_true rfl) dX7_enter_25 (fun H locs hP hD hS => ?_)
      obtain ⟨u25, e25⟩ : ∃ w : Nat → Int32, w = upd (V 2) 1 (0 : Int32) := ⟨_, rfl⟩
      have hP : va_P g.1 az_cl (az_cM g ad (va_up V 2 u25)) H := by rw [e25]; exact hP
      have hD : va_D A (az_cM g ad (va_up V 2 u25)) := by rw [e25]; exact hD
      replace h := az_let e25 h
      refine lv_aload_n hx hb dX7_enter_28 rfl (lv_at hl 0 rfl) ?_
      refine va_get (D := g.1) (ci := 7) (v := .int (u25 1)) (C := RX7) (T := TX7) (N := 5) hx hb hts inX7_enter_RX7 hown hK hP 0 rfl rfl 3 (Nat.le_of_ble_eq_true rfl) (hts _ (List.mem_of_getElem? (i := 1) rfl)) (fun _ h9 => h9) rfl dX7_enter_29 ?_
      refine lv_if_le (tgt := 37) hx hb dX7_enter_32 (by decide) (fun c32 => ?_) (fun c32 => ?_)
      · replace h := az_pos c32 h
        refine lv_aload_n hx hb dX7_enter_37 rfl (lv_at hl 0 rfl) ?_
        obtain ⟨o38, hc38, h⟩ := az_bnd h
        refine az_callVv (w2 := az_cM g ad (va_up (va_up V 1 o38.1) 2 o38.2)) (As := []) (rest := []) ⟨hx, hb, hml, hown, hts⟩ hl.1 (kX7_keeps l g ad (va_up V 2 u25) o38 hc38) (cwV 0 hts gX7_enter_X7_keeps rfl rfl rfl (by decide +kernel) ⟨Nat.le_of_ble_eq_true rfl, Nat.le_of_ble_eq_true rfl⟩) rfl hK hP hD hS hA [0, 1, 2, 3] [] [0, 1, 2, 3] rfl rfl rfl rfl rfl (by decide) rfl rfl rfl 0 rfl rfl rfl (Nat.le_of_ble_eq_true rfl) dX7_enter_38 ⟨Nat.zero_le _, Nat.zero_le _⟩ rfl (fun H locs hP hD hS => ?_)
        refine lv_aload_n hx hb dX7_enter_41 rfl (lv_at hl 0 rfl) ?_
        refine lv_iload_n hx hb dX7_enter_42 rfl (lv_at hl 1 rfl) ?_
        refine lv_iconst (v := (1 : Int32)) hx hb dX7_enter_43 (by decide) ?_
        obtain ⟨o44, hc44, h⟩ := az_bnd h
        refine az_callVi (w2 := az_cM g ad (va_up (va_up (va_up V 0 o44.2) 1 o38.1) 2 o38.2)) (As := [.int x1, .int (1 : Int32)]) (rest := []) ⟨hx, hb, hml, hown, hts⟩ hl.1 (kX7_lets l g ad (va_up (va_up V 1 o38.1) 2 o38.2) x1 (1 : Int32) o44 hc44) (cwV 2 hts gX7_enter_X7_lets rfl rfl rfl (by decide +kernel) ⟨Nat.le_of_ble_eq_true rfl, Nat.le_of_ble_eq_true rfl⟩) rfl hK hP hD hS hA [0, 1, 2, 3] [] [0, 1, 2, 3] rfl rfl rfl rfl rfl (by decide) rfl rfl rfl 0 rfl rfl rfl (Nat.le_of_ble_eq_true rfl) dX7_enter_44 ⟨Nat.zero_le _, Nat.zero_le _⟩ rfl (fun H locs hP hD hS => ?_)
        refine lv_istore_n (lv' := [(2, .int o44.1), (0, .ref (ad 0)), (1, .int x1)]) hx hb dX7_enter_47 rfl hl (by decide) rfl (fun ls hl => ?_)
        refine lv_aload_n hx hb dX7_enter_48 rfl (lv_at hl 1 rfl) ?_
        refine va_get (D := g.1) (ci := 7) (v := .ref (ad 1)) (C := RX7) (T := TX7) (N := 5) hx hb hts inX7_enter_RX7 hown hK hP 0 rfl rfl 0 (Nat.le_of_ble_eq_true rfl) (hts _ (List.mem_of_getElem? (i := 2) rfl)) (fun _ h9 => h9) rfl dX7_enter_49 ?_
        refine lv_iconst (v := (3 : Int32)) hx hb dX7_enter_52 (by decide) ?_
        refine va_iald (D := g.1) (f := o44.2) hx hb hK hP 1 0 rfl rfl (az_vin (by decide +kernel)) dX7_enter_53 ?_
        have hP : va_P g.1 az_cl (az_cM g ad (va_up (va_up (va_up V 0 o44.2) 1 o38.1) 2 o38.2)) _ := hP
        have hD : va_D A (az_cM g ad (va_up (va_up (va_up V 0 o44.2) 1 o38.1) 2 o38.2)) := hD
        rw [← Option.some.inj h]
        exact az_iret hx hb hr hlocks hK hP hD hS dX7_enter_54
      · replace h := az_neg c32 h
        refine lv_iconst (v := (0 : Int32)) hx hb dX7_enter_35 (by decide) ?_
        have hP : va_P g.1 az_cl (az_cM g ad (va_up (va_up (va_up V 0 (V 0)) 1 (V 1)) 2 u25)) _ := hP
        have hD : va_D A (az_cM g ad (va_up (va_up (va_up V 0 (V 0)) 1 (V 1)) 2 u25)) := hD
        rw [← Option.some.inj h]
        exact az_iret hx hb hr hlocks hK hP hD hS dX7_enter_36
    · replace h := az_neg c17 h
      refine lv_iconst (v := (2 : Int32)) hx hb dX7_enter_20 (by decide) ?_
      refine lv_goto (tgt := 25) hx hb dX7_enter_21 (by decide) ?_
      refine va_put (D := g.1) (ci := 7) (v := .int (2 : Int32)) (ty := .int) (C := RX7) (T := TX7) (N := 5) hx hb hts inX7_enter_RX7 tyX7 tyX7_ok nmX7 hown hK hP hD hS 0 rfl rfl 3 (Nat.le_of_ble_eq_true rfl) (hts _ (List.mem_of_getElem? (i := 1) rfl)) (fun _ h9 => h9) rfl (by decide +kernel) rfl rfl (Nat.le_of_ble_eq_true rfl) dX7_enter_25 (fun H locs hP hD hS => ?_)
      obtain ⟨u25, e25⟩ : ∃ w : Nat → Int32, w = upd (V 2) 1 (2 : Int32) := ⟨_, rfl⟩
      have hP : va_P g.1 az_cl (az_cM g ad (va_up V 2 u25)) H := by rw [e25]; exact hP
      have hD : va_D A (az_cM g ad (va_up V 2 u25)) := by rw [e25]; exact hD
      replace h := az_let e25 h
      refine lv_aload_n hx hb dX7_enter_28 rfl (lv_at hl 0 rfl) ?_
      refine va_get (D := g.1) (ci := 7) (v := .int (u25 1)) (C := RX7) (T := TX7) (N := 5) hx hb hts inX7_enter_RX7 hown hK hP 0 rfl rfl 3 (Nat.le_of_ble_eq_true rfl) (hts _ (List.mem_of_getElem? (i := 1) rfl)) (fun _ h9 => h9) rfl dX7_enter_29 ?_
      refine lv_if_le (tgt := 37) hx hb dX7_enter_32 (by decide) (fun c32 => ?_) (fun c32 => ?_)
      · replace h := az_pos c32 h
        refine lv_aload_n hx hb dX7_enter_37 rfl (lv_at hl 0 rfl) ?_
        obtain ⟨o38, hc38, h⟩ := az_bnd h
        refine az_callVv (w2 := az_cM g ad (va_up (va_up V 1 o38.1) 2 o38.2)) (As := []) (rest := []) ⟨hx, hb, hml, hown, hts⟩ hl.1 (kX7_keeps l g ad (va_up V 2 u25) o38 hc38) (cwV 0 hts gX7_enter_X7_keeps rfl rfl rfl (by decide +kernel) ⟨Nat.le_of_ble_eq_true rfl, Nat.le_of_ble_eq_true rfl⟩) rfl hK hP hD hS hA [0, 1, 2, 3] [] [0, 1, 2, 3] rfl rfl rfl rfl rfl (by decide) rfl rfl rfl 0 rfl rfl rfl (Nat.le_of_ble_eq_true rfl) dX7_enter_38 ⟨Nat.zero_le _, Nat.zero_le _⟩ rfl (fun H locs hP hD hS => ?_)
        refine lv_aload_n hx hb dX7_enter_41 rfl (lv_at hl 0 rfl) ?_
        refine lv_iload_n hx hb dX7_enter_42 rfl (lv_at hl 1 rfl) ?_
        refine lv_iconst (v := (1 : Int32)) hx hb dX7_enter_43 (by decide) ?_
        obtain ⟨o44, hc44, h⟩ := az_bnd h
        refine az_callVi (w2 := az_cM g ad (va_up (va_up (va_up V 0 o44.2) 1 o38.1) 2 o38.2)) (As := [.int x1, .int (1 : Int32)]) (rest := []) ⟨hx, hb, hml, hown, hts⟩ hl.1 (kX7_lets l g ad (va_up (va_up V 1 o38.1) 2 o38.2) x1 (1 : Int32) o44 hc44) (cwV 2 hts gX7_enter_X7_lets rfl rfl rfl (by decide +kernel) ⟨Nat.le_of_ble_eq_true rfl, Nat.le_of_ble_eq_true rfl⟩) rfl hK hP hD hS hA [0, 1, 2, 3] [] [0, 1, 2, 3] rfl rfl rfl rfl rfl (by decide) rfl rfl rfl 0 rfl rfl rfl (Nat.le_of_ble_eq_true rfl) dX7_enter_44 ⟨Nat.zero_le _, Nat.zero_le _⟩ rfl (fun H locs hP hD hS => ?_)
        refine lv_istore_n (lv' := [(2, .int o44.1), (0, .ref (ad 0)), (1, .int x1)]) hx hb dX7_enter_47 rfl hl (by decide) rfl (fun ls hl => ?_)
        refine lv_aload_n hx hb dX7_enter_48 rfl (lv_at hl 1 rfl) ?_
        refine va_get (D := g.1) (ci := 7) (v := .ref (ad 1)) (C := RX7) (T := TX7) (N := 5) hx hb hts inX7_enter_RX7 hown hK hP 0 rfl rfl 0 (Nat.le_of_ble_eq_true rfl) (hts _ (List.mem_of_getElem? (i := 2) rfl)) (fun _ h9 => h9) rfl dX7_enter_49 ?_
        refine lv_iconst (v := (3 : Int32)) hx hb dX7_enter_52 (by decide) ?_
        refine va_iald (D := g.1) (f := o44.2) hx hb hK hP 1 0 rfl rfl (az_vin (by decide +kernel)) dX7_enter_53 ?_
        have hP : va_P g.1 az_cl (az_cM g ad (va_up (va_up (va_up V 0 o44.2) 1 o38.1) 2 o38.2)) _ := hP
        have hD : va_D A (az_cM g ad (va_up (va_up (va_up V 0 o44.2) 1 o38.1) 2 o38.2)) := hD
        rw [← Option.some.inj h]
        exact az_iret hx hb hr hlocks hK hP hD hS dX7_enter_54
      · replace h := az_neg c32 h
        refine lv_iconst (v := (0 : Int32)) hx hb dX7_enter_35 (by decide) ?_
        have hP : va_P g.1 az_cl (az_cM g ad (va_up (va_up (va_up V 0 (V 0)) 1 (V 1)) 2 u25)) _ := hP
        have hD : va_D A (az_cM g ad (va_up (va_up (va_up V 0 (V 0)) 1 (V 1)) 2 u25)) := hD
        rw [← Option.some.inj h]
        exact az_iret hx hb hr hlocks hK hP hD hS dX7_enter_36
  · replace h := az_pos c5 h
    refine lv_iconst (v := (1 : Int32)) hx hb dX7_enter_8 (by decide) ?_
    refine lv_goto (tgt := 25) hx hb dX7_enter_9 (by decide) ?_
    refine va_put (D := g.1) (ci := 7) (v := .int (1 : Int32)) (ty := .int) (C := RX7) (T := TX7) (N := 5) hx hb hts inX7_enter_RX7 tyX7 tyX7_ok nmX7 hown hK hP hD hS 0 rfl rfl 3 (Nat.le_of_ble_eq_true rfl) (hts _ (List.mem_of_getElem? (i := 1) rfl)) (fun _ h9 => h9) rfl (by decide +kernel) rfl rfl (Nat.le_of_ble_eq_true rfl) dX7_enter_25 (fun H locs hP hD hS => ?_)
    obtain ⟨u25, e25⟩ : ∃ w : Nat → Int32, w = upd (V 2) 1 (1 : Int32) := ⟨_, rfl⟩
    have hP : va_P g.1 az_cl (az_cM g ad (va_up V 2 u25)) H := by rw [e25]; exact hP
    have hD : va_D A (az_cM g ad (va_up V 2 u25)) := by rw [e25]; exact hD
    replace h := az_let e25 h
    refine lv_aload_n hx hb dX7_enter_28 rfl (lv_at hl 0 rfl) ?_
    refine va_get (D := g.1) (ci := 7) (v := .int (u25 1)) (C := RX7) (T := TX7) (N := 5) hx hb hts inX7_enter_RX7 hown hK hP 0 rfl rfl 3 (Nat.le_of_ble_eq_true rfl) (hts _ (List.mem_of_getElem? (i := 1) rfl)) (fun _ h9 => h9) rfl dX7_enter_29 ?_
    refine lv_if_le (tgt := 37) hx hb dX7_enter_32 (by decide) (fun c32 => ?_) (fun c32 => ?_)
    · replace h := az_pos c32 h
      refine lv_aload_n hx hb dX7_enter_37 rfl (lv_at hl 0 rfl) ?_
      obtain ⟨o38, hc38, h⟩ := az_bnd h
      refine az_callVv (w2 := az_cM g ad (va_up (va_up V 1 o38.1) 2 o38.2)) (As := []) (rest := []) ⟨hx, hb, hml, hown, hts⟩ hl.1 (kX7_keeps l g ad (va_up V 2 u25) o38 hc38) (cwV 0 hts gX7_enter_X7_keeps rfl rfl rfl (by decide +kernel) ⟨Nat.le_of_ble_eq_true rfl, Nat.le_of_ble_eq_true rfl⟩) rfl hK hP hD hS hA [0, 1, 2, 3] [] [0, 1, 2, 3] rfl rfl rfl rfl rfl (by decide) rfl rfl rfl 0 rfl rfl rfl (Nat.le_of_ble_eq_true rfl) dX7_enter_38 ⟨Nat.zero_le _, Nat.zero_le _⟩ rfl (fun H locs hP hD hS => ?_)
      refine lv_aload_n hx hb dX7_enter_41 rfl (lv_at hl 0 rfl) ?_
      refine lv_iload_n hx hb dX7_enter_42 rfl (lv_at hl 1 rfl) ?_
      refine lv_iconst (v := (1 : Int32)) hx hb dX7_enter_43 (by decide) ?_
      obtain ⟨o44, hc44, h⟩ := az_bnd h
      refine az_callVi (w2 := az_cM g ad (va_up (va_up (va_up V 0 o44.2) 1 o38.1) 2 o38.2)) (As := [.int x1, .int (1 : Int32)]) (rest := []) ⟨hx, hb, hml, hown, hts⟩ hl.1 (kX7_lets l g ad (va_up (va_up V 1 o38.1) 2 o38.2) x1 (1 : Int32) o44 hc44) (cwV 2 hts gX7_enter_X7_lets rfl rfl rfl (by decide +kernel) ⟨Nat.le_of_ble_eq_true rfl, Nat.le_of_ble_eq_true rfl⟩) rfl hK hP hD hS hA [0, 1, 2, 3] [] [0, 1, 2, 3] rfl rfl rfl rfl rfl (by decide) rfl rfl rfl 0 rfl rfl rfl (Nat.le_of_ble_eq_true rfl) dX7_enter_44 ⟨Nat.zero_le _, Nat.zero_le _⟩ rfl (fun H locs hP hD hS => ?_)
      refine lv_istore_n (lv' := [(2, .int o44.1), (0, .ref (ad 0)), (1, .int x1)]) hx hb dX7_enter_47 rfl hl (by decide) rfl (fun ls hl => ?_)
      refine lv_aload_n hx hb dX7_enter_48 rfl (lv_at hl 1 rfl) ?_
      refine va_get (D := g.1) (ci := 7) (v := .ref (ad 1)) (C := RX7) (T := TX7) (N := 5) hx hb hts inX7_enter_RX7 hown hK hP 0 rfl rfl 0 (Nat.le_of_ble_eq_true rfl) (hts _ (List.mem_of_getElem? (i := 2) rfl)) (fun _ h9 => h9) rfl dX7_enter_49 ?_
      refine lv_iconst (v := (3 : Int32)) hx hb dX7_enter_52 (by decide) ?_
      refine va_iald (D := g.1) (f := o44.2) hx hb hK hP 1 0 rfl rfl (az_vin (by decide +kernel)) dX7_enter_53 ?_
      have hP : va_P g.1 az_cl (az_cM g ad (va_up (va_up (va_up V 0 o44.2) 1 o38.1) 2 o38.2)) _ := hP
      have hD : va_D A (az_cM g ad (va_up (va_up (va_up V 0 o44.2) 1 o38.1) 2 o38.2)) := hD
      rw [← Option.some.inj h]
      exact az_iret hx hb hr hlocks hK hP hD hS dX7_enter_54
    · replace h := az_neg c32 h
      refine lv_iconst (v := (0 : Int32)) hx hb dX7_enter_35 (by decide) ?_
      have hP : va_P g.1 az_cl (az_cM g ad (va_up (va_up (va_up V 0 (V 0)) 1 (V 1)) 2 u25)) _ := hP
      have hD : va_D A (az_cM g ad (va_up (va_up (va_up V 0 (V 0)) 1 (V 1)) 2 u25)) := hD
      rw [← Option.some.inj h]
      exact az_iret hx hb hr hlocks hK hP hD hS dX7_enter_36

def FX7_leave (V : az_St) (x1 : Int32) : Option (Int32 × (Nat → Int32) × (Nat → Int32) × (Nat → Int32)) := (FX7_isReader x1).bind (fun o2 => if o2 = (0 : Int32) then (az_lt (upd (V 2) 1 (1 : Int32)) (fun u26 => if u26 1 ≤ (0 : Int32) then ((FX7_keeps (va_up V 2 u26)).bind (fun o39 => (FX7_lets (va_up (va_up V 1 o39.1) 2 o39.2) x1 (0 : Int32)).bind (fun o45 => some (o45.1, o45.2, o39.1, o39.2)))) else (some ((0 : Int32), (V 0), (V 1), u26)))) else ((FX7_ofReader V x1 (0 : Int32)).bind (fun o15 => if o15 = (0 : Int32) then (az_lt (upd (V 2) 1 (2 : Int32)) (fun u26 => if u26 1 ≤ (0 : Int32) then ((FX7_keeps (va_up V 2 u26)).bind (fun o39 => (FX7_lets (va_up (va_up V 1 o39.1) 2 o39.2) x1 (0 : Int32)).bind (fun o45 => some (o45.1, o45.2, o39.1, o39.2)))) else (some ((0 : Int32), (V 0), (V 1), u26)))) else (az_lt (upd (V 2) 1 (0 : Int32)) (fun u26 => if u26 1 ≤ (0 : Int32) then ((FX7_keeps (va_up V 2 u26)).bind (fun o39 => (FX7_lets (va_up (va_up V 1 o39.1) 2 o39.2) x1 (0 : Int32)).bind (fun o45 => some (o45.1, o45.2, o39.1, o39.2)))) else (some ((0 : Int32), (V 0), (V 1), u26)))))))
theorem inX7_leave_RX7 : ∀ w ∈ wsX70, w ∈ wsX7_leave := az_inr [40, 41, 42, 43, 44] (by decide +kernel)
set_option maxHeartbeats 4000000 in
set_option maxRecDepth 100000 in
theorem kX7_leave (l : Launch) (g : az_G) (ad : Nat → Nat) (V : az_St) (x1 : Int32) (o : Int32 × (Nat → Int32) × (Nat → Int32) × (Nat → Int32)) (h : FX7_leave V x1 = some o) : az_I l yX7_leave wsX7_leave ({ frames := 3, cells := 0, slots := 0, locals := 69 } : Room) [.ref (ad 0), .int x1] g (az_cM g ad V) o.1 (az_cM g ad (va_up (va_up (va_up V 0 o.2.1) 1 o.2.2.1) 2 o.2.2.2)) := by
  refine az_body (cc := cX7_leave) (maxL := 2) (ret := (some .int)) (Qc := fun A => az_QI g (az_cM g ad (va_up (va_up (va_up V 0 o.2.1) 1 o.2.2.1) 2 o.2.2.2)) o.1 A) (by decide +kernel) rfl (Nat.le_of_ble_eq_true rfl) ?_
  intro p e s m args below meth c A hx hb hr hts hown hml hlocks hA hK hP hD hS ls hl
  have hl : lv_has ls 2 [(0, .ref (ad 0)), (1, .int x1)] := hl
  unfold FX7_leave at h
  refine lv_aload_n hx hb dX7_leave_0 rfl (lv_at hl 0 rfl) ?_
  refine lv_iload_n hx hb dX7_leave_1 rfl (lv_at hl 1 rfl) ?_
  obtain ⟨o2, hc2, h⟩ := az_bnd h
  refine az_callS0 (As := [.int x1]) (rest := [.ref (ad 0)]) ⟨hx, hb, hml, hown, hts⟩ hl.1 (kX7_isReader l g x1 o2 hc2) (va_cwS 1 hts gX7_leave_X7_isReader rfl rfl rfl (by decide +kernel) ⟨Nat.le_of_ble_eq_true rfl, Nat.le_of_ble_eq_true rfl⟩) rfl hK hP hS hA (Nat.le_of_ble_eq_true rfl) dX7_leave_2 ⟨Nat.zero_le _, Nat.zero_le _⟩ rfl (fun H locs hP hS => ?_)
  refine lv_if_ne (tgt := 12) hx hb dX7_leave_5 (by decide) (fun c5 => ?_) (fun c5 => ?_)
  · replace h := az_neg c5 h
    refine lv_aload_n hx hb dX7_leave_12 rfl (lv_at hl 0 rfl) ?_
    refine lv_iload_n hx hb dX7_leave_13 rfl (lv_at hl 1 rfl) ?_
    refine lv_iconst (v := (0 : Int32)) hx hb dX7_leave_14 (by decide) ?_
    obtain ⟨o15, hc15, h⟩ := az_bnd h
    refine az_callVi (w2 := az_cM g ad V) (As := [.int x1, .int (0 : Int32)]) (rest := [.ref (ad 0)]) ⟨hx, hb, hml, hown, hts⟩ hl.1 (kX7_ofReader l g ad V x1 (0 : Int32) o15 hc15) (cwV 2 hts gX7_leave_X7_ofReader rfl rfl rfl (by decide +kernel) ⟨Nat.le_of_ble_eq_true rfl, Nat.le_of_ble_eq_true rfl⟩) rfl hK hP hD hS hA [0, 1, 2, 3] [] [0, 1, 2, 3] rfl rfl rfl rfl rfl (by decide) rfl rfl rfl 0 rfl rfl rfl (Nat.le_of_ble_eq_true rfl) dX7_leave_15 ⟨Nat.zero_le _, Nat.zero_le _⟩ rfl (fun H locs hP hD hS => ?_)
    refine lv_if_ne (tgt := 25) hx hb dX7_leave_18 (by decide) (fun c18 => ?_) (fun c18 => ?_)
    · replace h := az_neg c18 h
      refine lv_iconst (v := (0 : Int32)) hx hb dX7_leave_25 (by decide) ?_
      refine va_put (D := g.1) (ci := 7) (v := .int (0 : Int32)) (ty := .int) (C := RX7) (T := TX7) (N := 5) hx hb hts inX7_leave_RX7 tyX7 tyX7_ok nmX7 hown hK hP hD hS 0 rfl rfl 3 (Nat.le_of_ble_eq_true rfl) (hts _ (List.mem_of_getElem? (i := 1) rfl)) (fun _ h9 => h9) rfl (by decide +kernel) rfl rfl (Nat.le_of_ble_eq_true rfl) dX7_leave_26 (fun H locs hP hD hS => ?_)
      obtain ⟨u26, e26⟩ : ∃ w : Nat → Int32, w = upd (V 2) 1 (0 : Int32) := ⟨_, rfl⟩
      have hP : va_P g.1 az_cl (az_cM g ad (va_up V 2 u26)) H := by rw [e26]; exact hP
      have hD : va_D A (az_cM g ad (va_up V 2 u26)) := by rw [e26]; exact hD
      replace h := az_let e26 h
      refine lv_aload_n hx hb dX7_leave_29 rfl (lv_at hl 0 rfl) ?_
      refine va_get (D := g.1) (ci := 7) (v := .int (u26 1)) (C := RX7) (T := TX7) (N := 5) hx hb hts inX7_leave_RX7 hown hK hP 0 rfl rfl 3 (Nat.le_of_ble_eq_true rfl) (hts _ (List.mem_of_getElem? (i := 1) rfl)) (fun _ h9 => h9) rfl dX7_leave_30 ?_
      refine lv_if_le (tgt := 38) hx hb dX7_leave_33 (by decide) (fun c33 => ?_) (fun c33 => ?_)
      · replace h := az_pos c33 h
        refine lv_aload_n hx hb dX7_leave_38 rfl (lv_at hl 0 rfl) ?_
        obtain ⟨o39, hc39, h⟩ := az_bnd h
        refine az_callVv (w2 := az_cM g ad (va_up (va_up V 1 o39.1) 2 o39.2)) (As := []) (rest := []) ⟨hx, hb, hml, hown, hts⟩ hl.1 (kX7_keeps l g ad (va_up V 2 u26) o39 hc39) (cwV 0 hts gX7_leave_X7_keeps rfl rfl rfl (by decide +kernel) ⟨Nat.le_of_ble_eq_true rfl, Nat.le_of_ble_eq_true rfl⟩) rfl hK hP hD hS hA [0, 1, 2, 3] [] [0, 1, 2, 3] rfl rfl rfl rfl rfl (by decide) rfl rfl rfl 0 rfl rfl rfl (Nat.le_of_ble_eq_true rfl) dX7_leave_39 ⟨Nat.zero_le _, Nat.zero_le _⟩ rfl (fun H locs hP hD hS => ?_)
        refine lv_aload_n hx hb dX7_leave_42 rfl (lv_at hl 0 rfl) ?_
        refine lv_iload_n hx hb dX7_leave_43 rfl (lv_at hl 1 rfl) ?_
        refine lv_iconst (v := (0 : Int32)) hx hb dX7_leave_44 (by decide) ?_
        obtain ⟨o45, hc45, h⟩ := az_bnd h
        refine az_callVi (w2 := az_cM g ad (va_up (va_up (va_up V 0 o45.2) 1 o39.1) 2 o39.2)) (As := [.int x1, .int (0 : Int32)]) (rest := []) ⟨hx, hb, hml, hown, hts⟩ hl.1 (kX7_lets l g ad (va_up (va_up V 1 o39.1) 2 o39.2) x1 (0 : Int32) o45 hc45) (cwV 2 hts gX7_leave_X7_lets rfl rfl rfl (by decide +kernel) ⟨Nat.le_of_ble_eq_true rfl, Nat.le_of_ble_eq_true rfl⟩) rfl hK hP hD hS hA [0, 1, 2, 3] [] [0, 1, 2, 3] rfl rfl rfl rfl rfl (by decide) rfl rfl rfl 0 rfl rfl rfl (Nat.le_of_ble_eq_true rfl) dX7_leave_45 ⟨Nat.zero_le _, Nat.zero_le _⟩ rfl (fun H locs hP hD hS => ?_)
        have hP : va_P g.1 az_cl (az_cM g ad (va_up (va_up (va_up V 0 o45.2) 1 o39.1) 2 o39.2)) _ := hP
        have hD : va_D A (az_cM g ad (va_up (va_up (va_up V 0 o45.2) 1 o39.1) 2 o39.2)) := hD
        rw [← Option.some.inj h]
        exact az_iret hx hb hr hlocks hK hP hD hS dX7_leave_48
      · replace h := az_neg c33 h
        refine lv_iconst (v := (0 : Int32)) hx hb dX7_leave_36 (by decide) ?_
        have hP : va_P g.1 az_cl (az_cM g ad (va_up (va_up (va_up V 0 (V 0)) 1 (V 1)) 2 u26)) _ := hP
        have hD : va_D A (az_cM g ad (va_up (va_up (va_up V 0 (V 0)) 1 (V 1)) 2 u26)) := hD
        rw [← Option.some.inj h]
        exact az_iret hx hb hr hlocks hK hP hD hS dX7_leave_37
    · replace h := az_pos c18 h
      refine lv_iconst (v := (2 : Int32)) hx hb dX7_leave_21 (by decide) ?_
      refine lv_goto (tgt := 26) hx hb dX7_leave_22 (by decide) ?_
      refine va_put (D := g.1) (ci := 7) (v := .int (2 : Int32)) (ty := .int) (C := RX7) (T := TX7) (N := 5) hx hb hts inX7_leave_RX7 tyX7 tyX7_ok nmX7 hown hK hP hD hS 0 rfl rfl 3 (Nat.le_of_ble_eq_true rfl) (hts _ (List.mem_of_getElem? (i := 1) rfl)) (fun _ h9 => h9) rfl (by decide +kernel) rfl rfl (Nat.le_of_ble_eq_true rfl) dX7_leave_26 (fun H locs hP hD hS => ?_)
      obtain ⟨u26, e26⟩ : ∃ w : Nat → Int32, w = upd (V 2) 1 (2 : Int32) := ⟨_, rfl⟩
      have hP : va_P g.1 az_cl (az_cM g ad (va_up V 2 u26)) H := by rw [e26]; exact hP
      have hD : va_D A (az_cM g ad (va_up V 2 u26)) := by rw [e26]; exact hD
      replace h := az_let e26 h
      refine lv_aload_n hx hb dX7_leave_29 rfl (lv_at hl 0 rfl) ?_
      refine va_get (D := g.1) (ci := 7) (v := .int (u26 1)) (C := RX7) (T := TX7) (N := 5) hx hb hts inX7_leave_RX7 hown hK hP 0 rfl rfl 3 (Nat.le_of_ble_eq_true rfl) (hts _ (List.mem_of_getElem? (i := 1) rfl)) (fun _ h9 => h9) rfl dX7_leave_30 ?_
      refine lv_if_le (tgt := 38) hx hb dX7_leave_33 (by decide) (fun c33 => ?_) (fun c33 => ?_)
      · replace h := az_pos c33 h
        refine lv_aload_n hx hb dX7_leave_38 rfl (lv_at hl 0 rfl) ?_
        obtain ⟨o39, hc39, h⟩ := az_bnd h
        refine az_callVv (w2 := az_cM g ad (va_up (va_up V 1 o39.1) 2 o39.2)) (As := []) (rest := []) ⟨hx, hb, hml, hown, hts⟩ hl.1 (kX7_keeps l g ad (va_up V 2 u26) o39 hc39) (cwV 0 hts gX7_leave_X7_keeps rfl rfl rfl (by decide +kernel) ⟨Nat.le_of_ble_eq_true rfl, Nat.le_of_ble_eq_true rfl⟩) rfl hK hP hD hS hA [0, 1, 2, 3] [] [0, 1, 2, 3] rfl rfl rfl rfl rfl (by decide) rfl rfl rfl 0 rfl rfl rfl (Nat.le_of_ble_eq_true rfl) dX7_leave_39 ⟨Nat.zero_le _, Nat.zero_le _⟩ rfl (fun H locs hP hD hS => ?_)
        refine lv_aload_n hx hb dX7_leave_42 rfl (lv_at hl 0 rfl) ?_
        refine lv_iload_n hx hb dX7_leave_43 rfl (lv_at hl 1 rfl) ?_
        refine lv_iconst (v := (0 : Int32)) hx hb dX7_leave_44 (by decide) ?_
        obtain ⟨o45, hc45, h⟩ := az_bnd h
        refine az_callVi (w2 := az_cM g ad (va_up (va_up (va_up V 0 o45.2) 1 o39.1) 2 o39.2)) (As := [.int x1, .int (0 : Int32)]) (rest := []) ⟨hx, hb, hml, hown, hts⟩ hl.1 (kX7_lets l g ad (va_up (va_up V 1 o39.1) 2 o39.2) x1 (0 : Int32) o45 hc45) (cwV 2 hts gX7_leave_X7_lets rfl rfl rfl (by decide +kernel) ⟨Nat.le_of_ble_eq_true rfl, Nat.le_of_ble_eq_true rfl⟩) rfl hK hP hD hS hA [0, 1, 2, 3] [] [0, 1, 2, 3] rfl rfl rfl rfl rfl (by decide) rfl rfl rfl 0 rfl rfl rfl (Nat.le_of_ble_eq_true rfl) dX7_leave_45 ⟨Nat.zero_le _, Nat.zero_le _⟩ rfl (fun H locs hP hD hS => ?_)
        have hP : va_P g.1 az_cl (az_cM g ad (va_up (va_up (va_up V 0 o45.2) 1 o39.1) 2 o39.2)) _ := hP
        have hD : va_D A (az_cM g ad (va_up (va_up (va_up V 0 o45.2) 1 o39.1) 2 o39.2)) := hD
        rw [← Option.some.inj h]
        exact az_iret hx hb hr hlocks hK hP hD hS dX7_leave_48
      · replace h := az_neg c33 h
        refine lv_iconst (v := (0 : Int32)) hx hb dX7_leave_36 (by decide) ?_
        have hP : va_P g.1 az_cl (az_cM g ad (va_up (va_up (va_up V 0 (V 0)) 1 (V 1)) 2 u26)) _ := hP
        have hD : va_D A (az_cM g ad (va_up (va_up (va_up V 0 (V 0)) 1 (V 1)) 2 u26)) := hD
        rw [← Option.some.inj h]
        exact az_iret hx hb hr hlocks hK hP hD hS dX7_leave_37
  · replace h := az_pos c5 h
    refine lv_iconst (v := (1 : Int32)) hx hb dX7_leave_8 (by decide) ?_
    refine lv_goto (tgt := 26) hx hb dX7_leave_9 (by decide) ?_
    refine va_put (D := g.1) (ci := 7) (v := .int (1 : Int32)) (ty := .int) (C := RX7) (T := TX7) (N := 5) hx hb hts inX7_leave_RX7 tyX7 tyX7_ok nmX7 hown hK hP hD hS 0 rfl rfl 3 (Nat.le_of_ble_eq_true rfl) (hts _ (List.mem_of_getElem? (i := 1) rfl)) (fun _ h9 => h9) rfl (by decide +kernel) rfl rfl (Nat.le_of_ble_eq_true rfl) dX7_leave_26 (fun H locs hP hD hS => ?_)
    obtain ⟨u26, e26⟩ : ∃ w : Nat → Int32, w = upd (V 2) 1 (1 : Int32) := ⟨_, rfl⟩
    have hP : va_P g.1 az_cl (az_cM g ad (va_up V 2 u26)) H := by rw [e26]; exact hP
    have hD : va_D A (az_cM g ad (va_up V 2 u26)) := by rw [e26]; exact hD
    replace h := az_let e26 h
    refine lv_aload_n hx hb dX7_leave_29 rfl (lv_at hl 0 rfl) ?_
    refine va_get (D := g.1) (ci := 7) (v := .int (u26 1)) (C := RX7) (T := TX7) (N := 5) hx hb hts inX7_leave_RX7 hown hK hP 0 rfl rfl 3 (Nat.le_of_ble_eq_true rfl) (hts _ (List.mem_of_getElem? (i := 1) rfl)) (fun _ h9 => h9) rfl dX7_leave_30 ?_
    refine lv_if_le (tgt := 38) hx hb dX7_leave_33 (by decide) (fun c33 => ?_) (fun c33 => ?_)
    · replace h := az_pos c33 h
      refine lv_aload_n hx hb dX7_leave_38 rfl (lv_at hl 0 rfl) ?_
      obtain ⟨o39, hc39, h⟩ := az_bnd h
      refine az_callVv (w2 := az_cM g ad (va_up (va_up V 1 o39.1) 2 o39.2)) (As := []) (rest := []) ⟨hx, hb, hml, hown, hts⟩ hl.1 (kX7_keeps l g ad (va_up V 2 u26) o39 hc39) (cwV 0 hts gX7_leave_X7_keeps rfl rfl rfl (by decide +kernel) ⟨Nat.le_of_ble_eq_true rfl, Nat.le_of_ble_eq_true rfl⟩) rfl hK hP hD hS hA [0, 1, 2, 3] [] [0, 1, 2, 3] rfl rfl rfl rfl rfl (by decide) rfl rfl rfl 0 rfl rfl rfl (Nat.le_of_ble_eq_true rfl) dX7_leave_39 ⟨Nat.zero_le _, Nat.zero_le _⟩ rfl (fun H locs hP hD hS => ?_)
      refine lv_aload_n hx hb dX7_leave_42 rfl (lv_at hl 0 rfl) ?_
      refine lv_iload_n hx hb dX7_leave_43 rfl (lv_at hl 1 rfl) ?_
      refine lv_iconst (v := (0 : Int32)) hx hb dX7_leave_44 (by decide) ?_
      obtain ⟨o45, hc45, h⟩ := az_bnd h
      refine az_callVi (w2 := az_cM g ad (va_up (va_up (va_up V 0 o45.2) 1 o39.1) 2 o39.2)) (As := [.int x1, .int (0 : Int32)]) (rest := []) ⟨hx, hb, hml, hown, hts⟩ hl.1 (kX7_lets l g ad (va_up (va_up V 1 o39.1) 2 o39.2) x1 (0 : Int32) o45 hc45) (cwV 2 hts gX7_leave_X7_lets rfl rfl rfl (by decide +kernel) ⟨Nat.le_of_ble_eq_true rfl, Nat.le_of_ble_eq_true rfl⟩) rfl hK hP hD hS hA [0, 1, 2, 3] [] [0, 1, 2, 3] rfl rfl rfl rfl rfl (by decide) rfl rfl rfl 0 rfl rfl rfl (Nat.le_of_ble_eq_true rfl) dX7_leave_45 ⟨Nat.zero_le _, Nat.zero_le _⟩ rfl (fun H locs hP hD hS => ?_)
      have hP : va_P g.1 az_cl (az_cM g ad (va_up (va_up (va_up V 0 o45.2) 1 o39.1) 2 o39.2)) _ := hP
      have hD : va_D A (az_cM g ad (va_up (va_up (va_up V 0 o45.2) 1 o39.1) 2 o39.2)) := hD
      rw [← Option.some.inj h]
      exact az_iret hx hb hr hlocks hK hP hD hS dX7_leave_48
    · replace h := az_neg c33 h
      refine lv_iconst (v := (0 : Int32)) hx hb dX7_leave_36 (by decide) ?_
      have hP : va_P g.1 az_cl (az_cM g ad (va_up (va_up (va_up V 0 (V 0)) 1 (V 1)) 2 u26)) _ := hP
      have hD : va_D A (az_cM g ad (va_up (va_up (va_up V 0 (V 0)) 1 (V 1)) 2 u26)) := hD
      rw [← Option.some.inj h]
      exact az_iret hx hb hr hlocks hK hP hD hS dX7_leave_37

def FX7_announce (V : az_St) (x1 : Int32) : Option (Int32 × (Nat → Int32) × (Nat → Int32) × (Nat → Int32)) := (FX7_isReader x1).bind (fun o2 => if o2 = (0 : Int32) then (az_lt (upd (V 2) 1 (1 : Int32)) (fun u25 => if u25 1 ≤ (0 : Int32) then ((FX7_keeps (va_up V 2 u25)).bind (fun o38 => (FX7_lets (va_up (va_up V 1 o38.1) 2 o38.2) x1 (1 : Int32)).bind (fun o44 => some (o44.1, o44.2, o38.1, o38.2)))) else (some ((0 : Int32), (V 0), (V 1), u25)))) else ((FX7_isInside V x1).bind (fun o14 => if o14 = (0 : Int32) then (az_lt (upd (V 2) 1 (2 : Int32)) (fun u25 => if u25 1 ≤ (0 : Int32) then ((FX7_keeps (va_up V 2 u25)).bind (fun o38 => (FX7_lets (va_up (va_up V 1 o38.1) 2 o38.2) x1 (1 : Int32)).bind (fun o44 => some (o44.1, o44.2, o38.1, o38.2)))) else (some ((0 : Int32), (V 0), (V 1), u25)))) else (az_lt (upd (V 2) 1 (0 : Int32)) (fun u25 => if u25 1 ≤ (0 : Int32) then ((FX7_keeps (va_up V 2 u25)).bind (fun o38 => (FX7_lets (va_up (va_up V 1 o38.1) 2 o38.2) x1 (1 : Int32)).bind (fun o44 => some (o44.1, o44.2, o38.1, o38.2)))) else (some ((0 : Int32), (V 0), (V 1), u25)))))))
theorem inX7_announce_RX7 : ∀ w ∈ wsX70, w ∈ wsX7_announce := az_inr [44, 45, 46, 47, 48] (by decide +kernel)
set_option maxHeartbeats 4000000 in
set_option maxRecDepth 100000 in
theorem kX7_announce (l : Launch) (g : az_G) (ad : Nat → Nat) (V : az_St) (x1 : Int32) (o : Int32 × (Nat → Int32) × (Nat → Int32) × (Nat → Int32)) (h : FX7_announce V x1 = some o) : az_I l yX7_announce wsX7_announce ({ frames := 3, cells := 0, slots := 0, locals := 69 } : Room) [.ref (ad 0), .int x1] g (az_cM g ad V) o.1 (az_cM g ad (va_up (va_up (va_up V 0 o.2.1) 1 o.2.2.1) 2 o.2.2.2)) := by
  refine az_body (cc := cX7_announce) (maxL := 2) (ret := (some .int)) (Qc := fun A => az_QI g (az_cM g ad (va_up (va_up (va_up V 0 o.2.1) 1 o.2.2.1) 2 o.2.2.2)) o.1 A) (by decide +kernel) rfl (Nat.le_of_ble_eq_true rfl) ?_
  intro p e s m args below meth c A hx hb hr hts hown hml hlocks hA hK hP hD hS ls hl
  have hl : lv_has ls 2 [(0, .ref (ad 0)), (1, .int x1)] := hl
  unfold FX7_announce at h
  refine lv_aload_n hx hb dX7_announce_0 rfl (lv_at hl 0 rfl) ?_
  refine lv_iload_n hx hb dX7_announce_1 rfl (lv_at hl 1 rfl) ?_
  obtain ⟨o2, hc2, h⟩ := az_bnd h
  refine az_callS0 (As := [.int x1]) (rest := [.ref (ad 0)]) ⟨hx, hb, hml, hown, hts⟩ hl.1 (kX7_isReader l g x1 o2 hc2) (va_cwS 1 hts gX7_announce_X7_isReader rfl rfl rfl (by decide +kernel) ⟨Nat.le_of_ble_eq_true rfl, Nat.le_of_ble_eq_true rfl⟩) rfl hK hP hS hA (Nat.le_of_ble_eq_true rfl) dX7_announce_2 ⟨Nat.zero_le _, Nat.zero_le _⟩ rfl (fun H locs hP hS => ?_)
  refine lv_if_ne (tgt := 12) hx hb dX7_announce_5 (by decide) (fun c5 => ?_) (fun c5 => ?_)
  · replace h := az_neg c5 h
    refine lv_aload_n hx hb dX7_announce_12 rfl (lv_at hl 0 rfl) ?_
    refine lv_iload_n hx hb dX7_announce_13 rfl (lv_at hl 1 rfl) ?_
    obtain ⟨o14, hc14, h⟩ := az_bnd h
    refine az_callVi (w2 := az_cM g ad V) (As := [.int x1]) (rest := [.ref (ad 0)]) ⟨hx, hb, hml, hown, hts⟩ hl.1 (kX7_isInside l g ad V x1 o14 hc14) (cwV 1 hts gX7_announce_X7_isInside rfl rfl rfl (by decide +kernel) ⟨Nat.le_of_ble_eq_true rfl, Nat.le_of_ble_eq_true rfl⟩) rfl hK hP hD hS hA [0, 1, 2, 3] [] [0, 1, 2, 3] rfl rfl rfl rfl rfl (by decide) rfl rfl rfl 0 rfl rfl rfl (Nat.le_of_ble_eq_true rfl) dX7_announce_14 ⟨Nat.zero_le _, Nat.zero_le _⟩ rfl (fun H locs hP hD hS => ?_)
    refine lv_if_ne (tgt := 24) hx hb dX7_announce_17 (by decide) (fun c17 => ?_) (fun c17 => ?_)
    · replace h := az_neg c17 h
      refine lv_iconst (v := (0 : Int32)) hx hb dX7_announce_24 (by decide) ?_
      refine va_put (D := g.1) (ci := 7) (v := .int (0 : Int32)) (ty := .int) (C := RX7) (T := TX7) (N := 5) hx hb hts inX7_announce_RX7 tyX7 tyX7_ok nmX7 hown hK hP hD hS 0 rfl rfl 3 (Nat.le_of_ble_eq_true rfl) (hts _ (List.mem_of_getElem? (i := 1) rfl)) (fun _ h9 => h9) rfl (by decide +kernel) rfl rfl (Nat.le_of_ble_eq_true rfl) dX7_announce_25 (fun H locs hP hD hS => ?_)
      obtain ⟨u25, e25⟩ : ∃ w : Nat → Int32, w = upd (V 2) 1 (0 : Int32) := ⟨_, rfl⟩
      have hP : va_P g.1 az_cl (az_cM g ad (va_up V 2 u25)) H := by rw [e25]; exact hP
      have hD : va_D A (az_cM g ad (va_up V 2 u25)) := by rw [e25]; exact hD
      replace h := az_let e25 h
      refine lv_aload_n hx hb dX7_announce_28 rfl (lv_at hl 0 rfl) ?_
      refine va_get (D := g.1) (ci := 7) (v := .int (u25 1)) (C := RX7) (T := TX7) (N := 5) hx hb hts inX7_announce_RX7 hown hK hP 0 rfl rfl 3 (Nat.le_of_ble_eq_true rfl) (hts _ (List.mem_of_getElem? (i := 1) rfl)) (fun _ h9 => h9) rfl dX7_announce_29 ?_
      refine lv_if_le (tgt := 37) hx hb dX7_announce_32 (by decide) (fun c32 => ?_) (fun c32 => ?_)
      · replace h := az_pos c32 h
        refine lv_aload_n hx hb dX7_announce_37 rfl (lv_at hl 0 rfl) ?_
        obtain ⟨o38, hc38, h⟩ := az_bnd h
        refine az_callVv (w2 := az_cM g ad (va_up (va_up V 1 o38.1) 2 o38.2)) (As := []) (rest := []) ⟨hx, hb, hml, hown, hts⟩ hl.1 (kX7_keeps l g ad (va_up V 2 u25) o38 hc38) (cwV 0 hts gX7_announce_X7_keeps rfl rfl rfl (by decide +kernel) ⟨Nat.le_of_ble_eq_true rfl, Nat.le_of_ble_eq_true rfl⟩) rfl hK hP hD hS hA [0, 1, 2, 3] [] [0, 1, 2, 3] rfl rfl rfl rfl rfl (by decide) rfl rfl rfl 0 rfl rfl rfl (Nat.le_of_ble_eq_true rfl) dX7_announce_38 ⟨Nat.zero_le _, Nat.zero_le _⟩ rfl (fun H locs hP hD hS => ?_)
        refine lv_aload_n hx hb dX7_announce_41 rfl (lv_at hl 0 rfl) ?_
        refine lv_iload_n hx hb dX7_announce_42 rfl (lv_at hl 1 rfl) ?_
        refine lv_iconst (v := (1 : Int32)) hx hb dX7_announce_43 (by decide) ?_
        obtain ⟨o44, hc44, h⟩ := az_bnd h
        refine az_callVi (w2 := az_cM g ad (va_up (va_up (va_up V 0 o44.2) 1 o38.1) 2 o38.2)) (As := [.int x1, .int (1 : Int32)]) (rest := []) ⟨hx, hb, hml, hown, hts⟩ hl.1 (kX7_lets l g ad (va_up (va_up V 1 o38.1) 2 o38.2) x1 (1 : Int32) o44 hc44) (cwV 2 hts gX7_announce_X7_lets rfl rfl rfl (by decide +kernel) ⟨Nat.le_of_ble_eq_true rfl, Nat.le_of_ble_eq_true rfl⟩) rfl hK hP hD hS hA [0, 1, 2, 3] [] [0, 1, 2, 3] rfl rfl rfl rfl rfl (by decide) rfl rfl rfl 0 rfl rfl rfl (Nat.le_of_ble_eq_true rfl) dX7_announce_44 ⟨Nat.zero_le _, Nat.zero_le _⟩ rfl (fun H locs hP hD hS => ?_)
        have hP : va_P g.1 az_cl (az_cM g ad (va_up (va_up (va_up V 0 o44.2) 1 o38.1) 2 o38.2)) _ := hP
        have hD : va_D A (az_cM g ad (va_up (va_up (va_up V 0 o44.2) 1 o38.1) 2 o38.2)) := hD
        rw [← Option.some.inj h]
        exact az_iret hx hb hr hlocks hK hP hD hS dX7_announce_47
      · replace h := az_neg c32 h
        refine lv_iconst (v := (0 : Int32)) hx hb dX7_announce_35 (by decide) ?_
        have hP : va_P g.1 az_cl (az_cM g ad (va_up (va_up (va_up V 0 (V 0)) 1 (V 1)) 2 u25)) _ := hP
        have hD : va_D A (az_cM g ad (va_up (va_up (va_up V 0 (V 0)) 1 (V 1)) 2 u25)) := hD
        rw [← Option.some.inj h]
        exact az_iret hx hb hr hlocks hK hP hD hS dX7_announce_36
    · replace h := az_pos c17 h
      refine lv_iconst (v := (2 : Int32)) hx hb dX7_announce_20 (by decide) ?_
      refine lv_goto (tgt := 25) hx hb dX7_announce_21 (by decide) ?_
      refine va_put (D := g.1) (ci := 7) (v := .int (2 : Int32)) (ty := .int) (C := RX7) (T := TX7) (N := 5) hx hb hts inX7_announce_RX7 tyX7 tyX7_ok nmX7 hown hK hP hD hS 0 rfl rfl 3 (Nat.le_of_ble_eq_true rfl) (hts _ (List.mem_of_getElem? (i := 1) rfl)) (fun _ h9 => h9) rfl (by decide +kernel) rfl rfl (Nat.le_of_ble_eq_true rfl) dX7_announce_25 (fun H locs hP hD hS => ?_)
      obtain ⟨u25, e25⟩ : ∃ w : Nat → Int32, w = upd (V 2) 1 (2 : Int32) := ⟨_, rfl⟩
      have hP : va_P g.1 az_cl (az_cM g ad (va_up V 2 u25)) H := by rw [e25]; exact hP
      have hD : va_D A (az_cM g ad (va_up V 2 u25)) := by rw [e25]; exact hD
      replace h := az_let e25 h
      refine lv_aload_n hx hb dX7_announce_28 rfl (lv_at hl 0 rfl) ?_
      refine va_get (D := g.1) (ci := 7) (v := .int (u25 1)) (C := RX7) (T := TX7) (N := 5) hx hb hts inX7_announce_RX7 hown hK hP 0 rfl rfl 3 (Nat.le_of_ble_eq_true rfl) (hts _ (List.mem_of_getElem? (i := 1) rfl)) (fun _ h9 => h9) rfl dX7_announce_29 ?_
      refine lv_if_le (tgt := 37) hx hb dX7_announce_32 (by decide) (fun c32 => ?_) (fun c32 => ?_)
      · replace h := az_pos c32 h
        refine lv_aload_n hx hb dX7_announce_37 rfl (lv_at hl 0 rfl) ?_
        obtain ⟨o38, hc38, h⟩ := az_bnd h
        refine az_callVv (w2 := az_cM g ad (va_up (va_up V 1 o38.1) 2 o38.2)) (As := []) (rest := []) ⟨hx, hb, hml, hown, hts⟩ hl.1 (kX7_keeps l g ad (va_up V 2 u25) o38 hc38) (cwV 0 hts gX7_announce_X7_keeps rfl rfl rfl (by decide +kernel) ⟨Nat.le_of_ble_eq_true rfl, Nat.le_of_ble_eq_true rfl⟩) rfl hK hP hD hS hA [0, 1, 2, 3] [] [0, 1, 2, 3] rfl rfl rfl rfl rfl (by decide) rfl rfl rfl 0 rfl rfl rfl (Nat.le_of_ble_eq_true rfl) dX7_announce_38 ⟨Nat.zero_le _, Nat.zero_le _⟩ rfl (fun H locs hP hD hS => ?_)
        refine lv_aload_n hx hb dX7_announce_41 rfl (lv_at hl 0 rfl) ?_
        refine lv_iload_n hx hb dX7_announce_42 rfl (lv_at hl 1 rfl) ?_
        refine lv_iconst (v := (1 : Int32)) hx hb dX7_announce_43 (by decide) ?_
        obtain ⟨o44, hc44, h⟩ := az_bnd h
        refine az_callVi (w2 := az_cM g ad (va_up (va_up (va_up V 0 o44.2) 1 o38.1) 2 o38.2)) (As := [.int x1, .int (1 : Int32)]) (rest := []) ⟨hx, hb, hml, hown, hts⟩ hl.1 (kX7_lets l g ad (va_up (va_up V 1 o38.1) 2 o38.2) x1 (1 : Int32) o44 hc44) (cwV 2 hts gX7_announce_X7_lets rfl rfl rfl (by decide +kernel) ⟨Nat.le_of_ble_eq_true rfl, Nat.le_of_ble_eq_true rfl⟩) rfl hK hP hD hS hA [0, 1, 2, 3] [] [0, 1, 2, 3] rfl rfl rfl rfl rfl (by decide) rfl rfl rfl 0 rfl rfl rfl (Nat.le_of_ble_eq_true rfl) dX7_announce_44 ⟨Nat.zero_le _, Nat.zero_le _⟩ rfl (fun H locs hP hD hS => ?_)
        have hP : va_P g.1 az_cl (az_cM g ad (va_up (va_up (va_up V 0 o44.2) 1 o38.1) 2 o38.2)) _ := hP
        have hD : va_D A (az_cM g ad (va_up (va_up (va_up V 0 o44.2) 1 o38.1) 2 o38.2)) := hD
        rw [← Option.some.inj h]
        exact az_iret hx hb hr hlocks hK hP hD hS dX7_announce_47
      · replace h := az_neg c32 h
        refine lv_iconst (v := (0 : Int32)) hx hb dX7_announce_35 (by decide) ?_
        have hP : va_P g.1 az_cl (az_cM g ad (va_up (va_up (va_up V 0 (V 0)) 1 (V 1)) 2 u25)) _ := hP
        have hD : va_D A (az_cM g ad (va_up (va_up (va_up V 0 (V 0)) 1 (V 1)) 2 u25)) := hD
        rw [← Option.some.inj h]
        exact az_iret hx hb hr hlocks hK hP hD hS dX7_announce_36
  · replace h := az_pos c5 h
    refine lv_iconst (v := (1 : Int32)) hx hb dX7_announce_8 (by decide) ?_
    refine lv_goto (tgt := 25) hx hb dX7_announce_9 (by decide) ?_
    refine va_put (D := g.1) (ci := 7) (v := .int (1 : Int32)) (ty := .int) (C := RX7) (T := TX7) (N := 5) hx hb hts inX7_announce_RX7 tyX7 tyX7_ok nmX7 hown hK hP hD hS 0 rfl rfl 3 (Nat.le_of_ble_eq_true rfl) (hts _ (List.mem_of_getElem? (i := 1) rfl)) (fun _ h9 => h9) rfl (by decide +kernel) rfl rfl (Nat.le_of_ble_eq_true rfl) dX7_announce_25 (fun H locs hP hD hS => ?_)
    obtain ⟨u25, e25⟩ : ∃ w : Nat → Int32, w = upd (V 2) 1 (1 : Int32) := ⟨_, rfl⟩
    have hP : va_P g.1 az_cl (az_cM g ad (va_up V 2 u25)) H := by rw [e25]; exact hP
    have hD : va_D A (az_cM g ad (va_up V 2 u25)) := by rw [e25]; exact hD
    replace h := az_let e25 h
    refine lv_aload_n hx hb dX7_announce_28 rfl (lv_at hl 0 rfl) ?_
    refine va_get (D := g.1) (ci := 7) (v := .int (u25 1)) (C := RX7) (T := TX7) (N := 5) hx hb hts inX7_announce_RX7 hown hK hP 0 rfl rfl 3 (Nat.le_of_ble_eq_true rfl) (hts _ (List.mem_of_getElem? (i := 1) rfl)) (fun _ h9 => h9) rfl dX7_announce_29 ?_
    refine lv_if_le (tgt := 37) hx hb dX7_announce_32 (by decide) (fun c32 => ?_) (fun c32 => ?_)
    · replace h := az_pos c32 h
      refine lv_aload_n hx hb dX7_announce_37 rfl (lv_at hl 0 rfl) ?_
      obtain ⟨o38, hc38, h⟩ := az_bnd h
      refine az_callVv (w2 := az_cM g ad (va_up (va_up V 1 o38.1) 2 o38.2)) (As := []) (rest := []) ⟨hx, hb, hml, hown, hts⟩ hl.1 (kX7_keeps l g ad (va_up V 2 u25) o38 hc38) (cwV 0 hts gX7_announce_X7_keeps rfl rfl rfl (by decide +kernel) ⟨Nat.le_of_ble_eq_true rfl, Nat.le_of_ble_eq_true rfl⟩) rfl hK hP hD hS hA [0, 1, 2, 3] [] [0, 1, 2, 3] rfl rfl rfl rfl rfl (by decide) rfl rfl rfl 0 rfl rfl rfl (Nat.le_of_ble_eq_true rfl) dX7_announce_38 ⟨Nat.zero_le _, Nat.zero_le _⟩ rfl (fun H locs hP hD hS => ?_)
      refine lv_aload_n hx hb dX7_announce_41 rfl (lv_at hl 0 rfl) ?_
      refine lv_iload_n hx hb dX7_announce_42 rfl (lv_at hl 1 rfl) ?_
      refine lv_iconst (v := (1 : Int32)) hx hb dX7_announce_43 (by decide) ?_
      obtain ⟨o44, hc44, h⟩ := az_bnd h
      refine az_callVi (w2 := az_cM g ad (va_up (va_up (va_up V 0 o44.2) 1 o38.1) 2 o38.2)) (As := [.int x1, .int (1 : Int32)]) (rest := []) ⟨hx, hb, hml, hown, hts⟩ hl.1 (kX7_lets l g ad (va_up (va_up V 1 o38.1) 2 o38.2) x1 (1 : Int32) o44 hc44) (cwV 2 hts gX7_announce_X7_lets rfl rfl rfl (by decide +kernel) ⟨Nat.le_of_ble_eq_true rfl, Nat.le_of_ble_eq_true rfl⟩) rfl hK hP hD hS hA [0, 1, 2, 3] [] [0, 1, 2, 3] rfl rfl rfl rfl rfl (by decide) rfl rfl rfl 0 rfl rfl rfl (Nat.le_of_ble_eq_true rfl) dX7_announce_44 ⟨Nat.zero_le _, Nat.zero_le _⟩ rfl (fun H locs hP hD hS => ?_)
      have hP : va_P g.1 az_cl (az_cM g ad (va_up (va_up (va_up V 0 o44.2) 1 o38.1) 2 o38.2)) _ := hP
      have hD : va_D A (az_cM g ad (va_up (va_up (va_up V 0 o44.2) 1 o38.1) 2 o38.2)) := hD
      rw [← Option.some.inj h]
      exact az_iret hx hb hr hlocks hK hP hD hS dX7_announce_47
    · replace h := az_neg c32 h
      refine lv_iconst (v := (0 : Int32)) hx hb dX7_announce_35 (by decide) ?_
      have hP : va_P g.1 az_cl (az_cM g ad (va_up (va_up (va_up V 0 (V 0)) 1 (V 1)) 2 u25)) _ := hP
      have hD : va_D A (az_cM g ad (va_up (va_up (va_up V 0 (V 0)) 1 (V 1)) 2 u25)) := hD
      rw [← Option.some.inj h]
      exact az_iret hx hb hr hlocks hK hP hD hS dX7_announce_36

def FX7_hold (V : az_St) (x1 : Int32) (x2 : Int32) : Option (Int32 × (Nat → Int32) × (Nat → Int32) × (Nat → Int32)) := (FX7_isReader x1).bind (fun o2 => if o2 = (0 : Int32) then (az_lt (upd (V 2) 1 (1 : Int32)) (fun u50 => if u50 1 ≤ (0 : Int32) then ((FX7_keeps (va_up V 2 u50)).bind (fun o63 => if az_in ((840 : Int32) + x2) 1036 = true then (FX7_ofReader (va_up (va_up V 1 o63.1) 2 o63.2) x1 ((2 : Int32) + (((V 0) ((840 : Int32) + x2).toNatClampNeg) / (16 : Int32)))).bind (fun o93 => (FX7_setReader (va_up (va_up V 1 o63.1) 2 o63.2) x1 ((2 : Int32) + (((V 0) ((840 : Int32) + x2).toNatClampNeg) / (16 : Int32))) (o93 ||| ((1 : Int32) <<< ((((V 0) ((840 : Int32) + x2).toNatClampNeg) - ((V 0) ((840 : Int32) + x2).toNatClampNeg) / (16 : Int32) * (16 : Int32)) &&& 31)))).bind (fun o103 => some ((V 0) ((840 : Int32) + x2).toNatClampNeg, o103, o63.1, o63.2))) else none)) else (some ((0 : Int32), (V 0), (V 1), u50)))) else ((FX7_isKey x2).bind (fun o9 => if o9 = (0 : Int32) then (az_lt (upd (V 2) 1 (1 : Int32)) (fun u50 => if u50 1 ≤ (0 : Int32) then ((FX7_keeps (va_up V 2 u50)).bind (fun o63 => if az_in ((840 : Int32) + x2) 1036 = true then (FX7_ofReader (va_up (va_up V 1 o63.1) 2 o63.2) x1 ((2 : Int32) + (((V 0) ((840 : Int32) + x2).toNatClampNeg) / (16 : Int32)))).bind (fun o93 => (FX7_setReader (va_up (va_up V 1 o63.1) 2 o63.2) x1 ((2 : Int32) + (((V 0) ((840 : Int32) + x2).toNatClampNeg) / (16 : Int32))) (o93 ||| ((1 : Int32) <<< ((((V 0) ((840 : Int32) + x2).toNatClampNeg) - ((V 0) ((840 : Int32) + x2).toNatClampNeg) / (16 : Int32) * (16 : Int32)) &&& 31)))).bind (fun o103 => some ((V 0) ((840 : Int32) + x2).toNatClampNeg, o103, o63.1, o63.2))) else none)) else (some ((0 : Int32), (V 0), (V 1), u50)))) else ((FX7_isInside V x1).bind (fun o21 => if o21 = (0 : Int32) then (az_lt (upd (V 2) 1 (2 : Int32)) (fun u50 => if u50 1 ≤ (0 : Int32) then ((FX7_keeps (va_up V 2 u50)).bind (fun o63 => if az_in ((840 : Int32) + x2) 1036 = true then (FX7_ofReader (va_up (va_up V 1 o63.1) 2 o63.2) x1 ((2 : Int32) + (((V 0) ((840 : Int32) + x2).toNatClampNeg) / (16 : Int32)))).bind (fun o93 => (FX7_setReader (va_up (va_up V 1 o63.1) 2 o63.2) x1 ((2 : Int32) + (((V 0) ((840 : Int32) + x2).toNatClampNeg) / (16 : Int32))) (o93 ||| ((1 : Int32) <<< ((((V 0) ((840 : Int32) + x2).toNatClampNeg) - ((V 0) ((840 : Int32) + x2).toNatClampNeg) / (16 : Int32) * (16 : Int32)) &&& 31)))).bind (fun o103 => some ((V 0) ((840 : Int32) + x2).toNatClampNeg, o103, o63.1, o63.2))) else none)) else (some ((0 : Int32), (V 0), (V 1), u50)))) else (if az_in ((840 : Int32) + x2) 1036 = true then if (V 0) ((840 : Int32) + x2).toNatClampNeg = (-1 : Int32) then (az_lt (upd (V 2) 1 (3 : Int32)) (fun u50 => if u50 1 ≤ (0 : Int32) then ((FX7_keeps (va_up V 2 u50)).bind (fun o63 => (FX7_ofReader (va_up (va_up V 1 o63.1) 2 o63.2) x1 ((2 : Int32) + (((V 0) ((840 : Int32) + x2).toNatClampNeg) / (16 : Int32)))).bind (fun o93 => (FX7_setReader (va_up (va_up V 1 o63.1) 2 o63.2) x1 ((2 : Int32) + (((V 0) ((840 : Int32) + x2).toNatClampNeg) / (16 : Int32))) (o93 ||| ((1 : Int32) <<< ((((V 0) ((840 : Int32) + x2).toNatClampNeg) - ((V 0) ((840 : Int32) + x2).toNatClampNeg) / (16 : Int32) * (16 : Int32)) &&& 31)))).bind (fun o103 => some ((V 0) ((840 : Int32) + x2).toNatClampNeg, o103, o63.1, o63.2))))) else (some ((0 : Int32), (V 0), (V 1), u50)))) else (az_lt (upd (V 2) 1 (0 : Int32)) (fun u50 => if u50 1 ≤ (0 : Int32) then ((FX7_keeps (va_up V 2 u50)).bind (fun o63 => (FX7_ofReader (va_up (va_up V 1 o63.1) 2 o63.2) x1 ((2 : Int32) + (((V 0) ((840 : Int32) + x2).toNatClampNeg) / (16 : Int32)))).bind (fun o93 => (FX7_setReader (va_up (va_up V 1 o63.1) 2 o63.2) x1 ((2 : Int32) + (((V 0) ((840 : Int32) + x2).toNatClampNeg) / (16 : Int32))) (o93 ||| ((1 : Int32) <<< ((((V 0) ((840 : Int32) + x2).toNatClampNeg) - ((V 0) ((840 : Int32) + x2).toNatClampNeg) / (16 : Int32) * (16 : Int32)) &&& 31)))).bind (fun o103 => some ((V 0) ((840 : Int32) + x2).toNatClampNeg, o103, o63.1, o63.2))))) else (some ((0 : Int32), (V 0), (V 1), u50)))) else none))))))
theorem inX7_hold_RX7 : ∀ w ∈ wsX70, w ∈ wsX7_hold := az_inr [33, 34, 35, 36, 37] (by decide +kernel)
set_option maxHeartbeats 4000000 in
set_option maxRecDepth 100000 in
theorem kX7_hold (l : Launch) (g : az_G) (ad : Nat → Nat) (V : az_St) (x1 : Int32) (x2 : Int32) (o : Int32 × (Nat → Int32) × (Nat → Int32) × (Nat → Int32)) (h : FX7_hold V x1 x2 = some o) : az_I l yX7_hold wsX7_hold ({ frames := 2, cells := 0, slots := 0, locals := 45 } : Room) [.ref (ad 0), .int x1, .int x2] g (az_cM g ad V) o.1 (az_cM g ad (va_up (va_up (va_up V 0 o.2.1) 1 o.2.2.1) 2 o.2.2.2)) := by
  refine az_body (cc := cX7_hold) (maxL := 4) (ret := (some .int)) (Qc := fun A => az_QI g (az_cM g ad (va_up (va_up (va_up V 0 o.2.1) 1 o.2.2.1) 2 o.2.2.2)) o.1 A) (by decide +kernel) rfl (Nat.le_of_ble_eq_true rfl) ?_
  intro p e s m args below meth c A hx hb hr hts hown hml hlocks hA hK hP hD hS ls hl
  have hl : lv_has ls 4 [(0, .ref (ad 0)), (1, .int x1), (2, .int x2)] := hl
  unfold FX7_hold at h
  refine lv_aload_n hx hb dX7_hold_0 rfl (lv_at hl 0 rfl) ?_
  refine lv_iload_n hx hb dX7_hold_1 rfl (lv_at hl 1 rfl) ?_
  obtain ⟨o2, hc2, h⟩ := az_bnd h
  refine az_callS0 (As := [.int x1]) (rest := [.ref (ad 0)]) ⟨hx, hb, hml, hown, hts⟩ hl.1 (kX7_isReader l g x1 o2 hc2) (va_cwS 1 hts gX7_hold_X7_isReader rfl rfl rfl (by decide +kernel) ⟨Nat.le_of_ble_eq_true rfl, Nat.le_of_ble_eq_true rfl⟩) rfl hK hP hS hA (Nat.le_of_ble_eq_true rfl) dX7_hold_2 ⟨Nat.zero_le _, Nat.zero_le _⟩ rfl (fun H locs hP hS => ?_)
  refine lv_if_eq (tgt := 15) hx hb dX7_hold_5 (by decide) (fun c5 => ?_) (fun c5 => ?_)
  · replace h := az_pos c5 h
    refine lv_iconst (v := (1 : Int32)) hx hb dX7_hold_15 (by decide) ?_
    refine lv_goto (tgt := 50) hx hb dX7_hold_16 (by decide) ?_
    refine va_put (D := g.1) (ci := 7) (v := .int (1 : Int32)) (ty := .int) (C := RX7) (T := TX7) (N := 5) hx hb hts inX7_hold_RX7 tyX7 tyX7_ok nmX7 hown hK hP hD hS 0 rfl rfl 3 (Nat.le_of_ble_eq_true rfl) (hts _ (List.mem_of_getElem? (i := 2) rfl)) (fun _ h9 => h9) rfl (by decide +kernel) rfl rfl (Nat.le_of_ble_eq_true rfl) dX7_hold_50 (fun H locs hP hD hS => ?_)
    obtain ⟨u50, e50⟩ : ∃ w : Nat → Int32, w = upd (V 2) 1 (1 : Int32) := ⟨_, rfl⟩
    have hP : va_P g.1 az_cl (az_cM g ad (va_up V 2 u50)) H := by rw [e50]; exact hP
    have hD : va_D A (az_cM g ad (va_up V 2 u50)) := by rw [e50]; exact hD
    replace h := az_let e50 h
    refine lv_aload_n hx hb dX7_hold_53 rfl (lv_at hl 0 rfl) ?_
    refine va_get (D := g.1) (ci := 7) (v := .int (u50 1)) (C := RX7) (T := TX7) (N := 5) hx hb hts inX7_hold_RX7 hown hK hP 0 rfl rfl 3 (Nat.le_of_ble_eq_true rfl) (hts _ (List.mem_of_getElem? (i := 2) rfl)) (fun _ h9 => h9) rfl dX7_hold_54 ?_
    refine lv_if_le (tgt := 62) hx hb dX7_hold_57 (by decide) (fun c57 => ?_) (fun c57 => ?_)
    · replace h := az_pos c57 h
      refine lv_aload_n hx hb dX7_hold_62 rfl (lv_at hl 0 rfl) ?_
      obtain ⟨o63, hc63, h⟩ := az_bnd h
      refine az_callVv (w2 := az_cM g ad (va_up (va_up V 1 o63.1) 2 o63.2)) (As := []) (rest := []) ⟨hx, hb, hml, hown, hts⟩ hl.1 (kX7_keeps l g ad (va_up V 2 u50) o63 hc63) (cwV 0 hts gX7_hold_X7_keeps rfl rfl rfl (by decide +kernel) ⟨Nat.le_of_ble_eq_true rfl, Nat.le_of_ble_eq_true rfl⟩) rfl hK hP hD hS hA [0, 1, 2, 3] [] [0, 1, 2, 3] rfl rfl rfl rfl rfl (by decide) rfl rfl rfl 0 rfl rfl rfl (Nat.le_of_ble_eq_true rfl) dX7_hold_63 ⟨Nat.zero_le _, Nat.zero_le _⟩ rfl (fun H locs hP hD hS => ?_)
      refine lv_aload_n hx hb dX7_hold_66 rfl (lv_at hl 0 rfl) ?_
      refine va_get (D := g.1) (ci := 7) (v := .ref (ad 1)) (C := RX7) (T := TX7) (N := 5) hx hb hts inX7_hold_RX7 hown hK hP 0 rfl rfl 0 (Nat.le_of_ble_eq_true rfl) (hts _ (List.mem_of_getElem? (i := 1) rfl)) (fun _ h9 => h9) rfl dX7_hold_67 ?_
      refine lv_sipush (v := (840 : Int32)) hx hb dX7_hold_70 (by decide) ?_
      refine lv_iload_n hx hb dX7_hold_73 rfl (lv_at hl 2 rfl) ?_
      refine lv_iadd hx hb dX7_hold_74 ?_
      obtain ⟨i75, h⟩ := az_ite h
      refine va_iald (D := g.1) (f := (V 0)) hx hb hK hP 1 0 rfl rfl (az_vin i75) dX7_hold_75 ?_
      refine lv_istore_n (lv' := [(3, .int ((V 0) ((840 : Int32) + x2).toNatClampNeg)), (0, .ref (ad 0)), (1, .int x1), (2, .int x2)]) hx hb dX7_hold_76 rfl hl (by decide) rfl (fun ls hl => ?_)
      refine lv_aload_n hx hb dX7_hold_77 rfl (lv_at hl 1 rfl) ?_
      refine lv_iload_n hx hb dX7_hold_78 rfl (lv_at hl 2 rfl) ?_
      refine lv_iconst (v := (2 : Int32)) hx hb dX7_hold_79 (by decide) ?_
      refine lv_iload_n hx hb dX7_hold_80 rfl (lv_at hl 0 rfl) ?_
      refine lv_bipush (v := (16 : Int32)) hx hb dX7_hold_81 (by decide) ?_
      refine lv_idiv hx hb dX7_hold_83 (by decide) ?_
      refine lv_iadd hx hb dX7_hold_84 ?_
      refine lv_aload_n hx hb dX7_hold_85 rfl (lv_at hl 1 rfl) ?_
      refine lv_iload_n hx hb dX7_hold_86 rfl (lv_at hl 2 rfl) ?_
      refine lv_iconst (v := (2 : Int32)) hx hb dX7_hold_87 (by decide) ?_
      refine lv_iload_n hx hb dX7_hold_88 rfl (lv_at hl 0 rfl) ?_
      refine lv_bipush (v := (16 : Int32)) hx hb dX7_hold_89 (by decide) ?_
      refine lv_idiv hx hb dX7_hold_91 (by decide) ?_
      refine lv_iadd hx hb dX7_hold_92 ?_
      obtain ⟨o93, hc93, h⟩ := az_bnd h
      refine az_callVi (w2 := az_cM g ad (va_up (va_up V 1 o63.1) 2 o63.2)) (As := [.int x1, .int ((2 : Int32) + (((V 0) ((840 : Int32) + x2).toNatClampNeg) / (16 : Int32)))]) (rest := [.int ((2 : Int32) + (((V 0) ((840 : Int32) + x2).toNatClampNeg) / (16 : Int32))), .int x1, .ref (ad 0)]) ⟨hx, hb, hml, hown, hts⟩ hl.1 (kX7_ofReader l g ad (va_up (va_up V 1 o63.1) 2 o63.2) x1 ((2 : Int32) + (((V 0) ((840 : Int32) + x2).toNatClampNeg) / (16 : Int32))) o93 hc93) (cwV 2 hts gX7_hold_X7_ofReader rfl rfl rfl (by decide +kernel) ⟨Nat.le_of_ble_eq_true rfl, Nat.le_of_ble_eq_true rfl⟩) rfl hK hP hD hS hA [0, 1, 2, 3] [] [0, 1, 2, 3] rfl rfl rfl rfl rfl (by decide) rfl rfl rfl 0 rfl rfl rfl (Nat.le_of_ble_eq_true rfl) dX7_hold_93 ⟨Nat.zero_le _, Nat.zero_le _⟩ rfl (fun H locs hP hD hS => ?_)
      refine lv_iconst (v := (1 : Int32)) hx hb dX7_hold_96 (by decide) ?_
      refine lv_iload_n hx hb dX7_hold_97 rfl (lv_at hl 0 rfl) ?_
      refine lv_bipush (v := (16 : Int32)) hx hb dX7_hold_98 (by decide) ?_
      refine lv_irem hx hb dX7_hold_100 (by decide) ?_
      refine lv_ishl hx hb dX7_hold_101 ?_
      refine lv_ior hx hb dX7_hold_102 ?_
      obtain ⟨o103, hc103, h⟩ := az_bnd h
      refine az_callVv (w2 := az_cM g ad (va_up (va_up (va_up V 0 o103) 1 o63.1) 2 o63.2)) (As := [.int x1, .int ((2 : Int32) + (((V 0) ((840 : Int32) + x2).toNatClampNeg) / (16 : Int32))), .int (o93 ||| ((1 : Int32) <<< ((((V 0) ((840 : Int32) + x2).toNatClampNeg) - ((V 0) ((840 : Int32) + x2).toNatClampNeg) / (16 : Int32) * (16 : Int32)) &&& 31)))]) (rest := []) ⟨hx, hb, hml, hown, hts⟩ hl.1 (kX7_setReader l g ad (va_up (va_up V 1 o63.1) 2 o63.2) x1 ((2 : Int32) + (((V 0) ((840 : Int32) + x2).toNatClampNeg) / (16 : Int32))) (o93 ||| ((1 : Int32) <<< ((((V 0) ((840 : Int32) + x2).toNatClampNeg) - ((V 0) ((840 : Int32) + x2).toNatClampNeg) / (16 : Int32) * (16 : Int32)) &&& 31))) o103 hc103) (cwV 3 hts gX7_hold_X7_setReader rfl rfl rfl (by decide +kernel) ⟨Nat.le_of_ble_eq_true rfl, Nat.le_of_ble_eq_true rfl⟩) rfl hK hP hD hS hA [0, 1, 2, 3] [] [0, 1, 2, 3] rfl rfl rfl rfl rfl (by decide) rfl rfl rfl 0 rfl rfl rfl (Nat.le_of_ble_eq_true rfl) dX7_hold_103 ⟨Nat.zero_le _, Nat.zero_le _⟩ rfl (fun H locs hP hD hS => ?_)
      refine lv_iload_n hx hb dX7_hold_106 rfl (lv_at hl 0 rfl) ?_
      have hP : va_P g.1 az_cl (az_cM g ad (va_up (va_up (va_up V 0 o103) 1 o63.1) 2 o63.2)) _ := hP
      have hD : va_D A (az_cM g ad (va_up (va_up (va_up V 0 o103) 1 o63.1) 2 o63.2)) := hD
      rw [← Option.some.inj h]
      exact az_iret hx hb hr hlocks hK hP hD hS dX7_hold_107
    · replace h := az_neg c57 h
      refine lv_iconst (v := (0 : Int32)) hx hb dX7_hold_60 (by decide) ?_
      have hP : va_P g.1 az_cl (az_cM g ad (va_up (va_up (va_up V 0 (V 0)) 1 (V 1)) 2 u50)) _ := hP
      have hD : va_D A (az_cM g ad (va_up (va_up (va_up V 0 (V 0)) 1 (V 1)) 2 u50)) := hD
      rw [← Option.some.inj h]
      exact az_iret hx hb hr hlocks hK hP hD hS dX7_hold_61
  · replace h := az_neg c5 h
    refine lv_iload_n hx hb dX7_hold_8 rfl (lv_at hl 2 rfl) ?_
    obtain ⟨o9, hc9, h⟩ := az_bnd h
    refine az_callS0 (As := [.int x2]) (rest := [.ref (ad 0)]) ⟨hx, hb, hml, hown, hts⟩ hl.1 (kX7_isKey l g x2 o9 hc9) (va_cwS 1 hts gX7_hold_X7_isKey rfl rfl rfl (by decide +kernel) ⟨Nat.le_of_ble_eq_true rfl, Nat.le_of_ble_eq_true rfl⟩) rfl hK hP hS hA (Nat.le_of_ble_eq_true rfl) dX7_hold_9 ⟨Nat.zero_le _, Nat.zero_le _⟩ rfl (fun H locs hP hS => ?_)
    refine lv_if_ne (tgt := 19) hx hb dX7_hold_12 (by decide) (fun c12 => ?_) (fun c12 => ?_)
    · replace h := az_neg c12 h
      refine lv_aload_n hx hb dX7_hold_19 rfl (lv_at hl 0 rfl) ?_
      refine lv_iload_n hx hb dX7_hold_20 rfl (lv_at hl 1 rfl) ?_
      obtain ⟨o21, hc21, h⟩ := az_bnd h
      refine az_callVi (w2 := az_cM g ad V) (As := [.int x1]) (rest := [.ref (ad 0)]) ⟨hx, hb, hml, hown, hts⟩ hl.1 (kX7_isInside l g ad V x1 o21 hc21) (cwV 1 hts gX7_hold_X7_isInside rfl rfl rfl (by decide +kernel) ⟨Nat.le_of_ble_eq_true rfl, Nat.le_of_ble_eq_true rfl⟩) rfl hK hP hD hS hA [0, 1, 2, 3] [] [0, 1, 2, 3] rfl rfl rfl rfl rfl (by decide) rfl rfl rfl 0 rfl rfl rfl (Nat.le_of_ble_eq_true rfl) dX7_hold_21 ⟨Nat.zero_le _, Nat.zero_le _⟩ rfl (fun H locs hP hD hS => ?_)
      refine lv_if_ne (tgt := 31) hx hb dX7_hold_24 (by decide) (fun c24 => ?_) (fun c24 => ?_)
      · replace h := az_neg c24 h
        refine lv_aload_n hx hb dX7_hold_31 rfl (lv_at hl 0 rfl) ?_
        refine va_get (D := g.1) (ci := 7) (v := .ref (ad 1)) (C := RX7) (T := TX7) (N := 5) hx hb hts inX7_hold_RX7 hown hK hP 0 rfl rfl 0 (Nat.le_of_ble_eq_true rfl) (hts _ (List.mem_of_getElem? (i := 1) rfl)) (fun _ h9 => h9) rfl dX7_hold_32 ?_
        refine lv_sipush (v := (840 : Int32)) hx hb dX7_hold_35 (by decide) ?_
        refine lv_iload_n hx hb dX7_hold_38 rfl (lv_at hl 2 rfl) ?_
        refine lv_iadd hx hb dX7_hold_39 ?_
        obtain ⟨i40, h⟩ := az_ite h
        refine va_iald (D := g.1) (f := (V 0)) hx hb hK hP 1 0 rfl rfl (az_vin i40) dX7_hold_40 ?_
        refine lv_iconst (v := (-1 : Int32)) hx hb dX7_hold_41 (by decide) ?_
        refine lv_icmp_ne (tgt := 49) hx hb dX7_hold_42 (by decide) (fun c42 => ?_) (fun c42 => ?_)
        · replace h := az_neg c42 h
          refine lv_iconst (v := (0 : Int32)) hx hb dX7_hold_49 (by decide) ?_
          refine va_put (D := g.1) (ci := 7) (v := .int (0 : Int32)) (ty := .int) (C := RX7) (T := TX7) (N := 5) hx hb hts inX7_hold_RX7 tyX7 tyX7_ok nmX7 hown hK hP hD hS 0 rfl rfl 3 (Nat.le_of_ble_eq_true rfl) (hts _ (List.mem_of_getElem? (i := 2) rfl)) (fun _ h9 => h9) rfl (by decide +kernel) rfl rfl (Nat.le_of_ble_eq_true rfl) dX7_hold_50 (fun H locs hP hD hS => ?_)
          obtain ⟨u50, e50⟩ : ∃ w : Nat → Int32, w = upd (V 2) 1 (0 : Int32) := ⟨_, rfl⟩
          have hP : va_P g.1 az_cl (az_cM g ad (va_up V 2 u50)) H := by rw [e50]; exact hP
          have hD : va_D A (az_cM g ad (va_up V 2 u50)) := by rw [e50]; exact hD
          replace h := az_let e50 h
          refine lv_aload_n hx hb dX7_hold_53 rfl (lv_at hl 0 rfl) ?_
          refine va_get (D := g.1) (ci := 7) (v := .int (u50 1)) (C := RX7) (T := TX7) (N := 5) hx hb hts inX7_hold_RX7 hown hK hP 0 rfl rfl 3 (Nat.le_of_ble_eq_true rfl) (hts _ (List.mem_of_getElem? (i := 2) rfl)) (fun _ h9 => h9) rfl dX7_hold_54 ?_
          refine lv_if_le (tgt := 62) hx hb dX7_hold_57 (by decide) (fun c57 => ?_) (fun c57 => ?_)
          · replace h := az_pos c57 h
            refine lv_aload_n hx hb dX7_hold_62 rfl (lv_at hl 0 rfl) ?_
            obtain ⟨o63, hc63, h⟩ := az_bnd h
            refine az_callVv (w2 := az_cM g ad (va_up (va_up V 1 o63.1) 2 o63.2)) (As := []) (rest := []) ⟨hx, hb, hml, hown, hts⟩ hl.1 (kX7_keeps l g ad (va_up V 2 u50) o63 hc63) (cwV 0 hts gX7_hold_X7_keeps rfl rfl rfl (by decide +kernel) ⟨Nat.le_of_ble_eq_true rfl, Nat.le_of_ble_eq_true rfl⟩) rfl hK hP hD hS hA [0, 1, 2, 3] [] [0, 1, 2, 3] rfl rfl rfl rfl rfl (by decide) rfl rfl rfl 0 rfl rfl rfl (Nat.le_of_ble_eq_true rfl) dX7_hold_63 ⟨Nat.zero_le _, Nat.zero_le _⟩ rfl (fun H locs hP hD hS => ?_)
            refine lv_aload_n hx hb dX7_hold_66 rfl (lv_at hl 0 rfl) ?_
            refine va_get (D := g.1) (ci := 7) (v := .ref (ad 1)) (C := RX7) (T := TX7) (N := 5) hx hb hts inX7_hold_RX7 hown hK hP 0 rfl rfl 0 (Nat.le_of_ble_eq_true rfl) (hts _ (List.mem_of_getElem? (i := 1) rfl)) (fun _ h9 => h9) rfl dX7_hold_67 ?_
            refine lv_sipush (v := (840 : Int32)) hx hb dX7_hold_70 (by decide) ?_
            refine lv_iload_n hx hb dX7_hold_73 rfl (lv_at hl 2 rfl) ?_
            refine lv_iadd hx hb dX7_hold_74 ?_
            refine va_iald (D := g.1) (f := (V 0)) hx hb hK hP 1 0 rfl rfl (az_vin i40) dX7_hold_75 ?_
            refine lv_istore_n (lv' := [(3, .int ((V 0) ((840 : Int32) + x2).toNatClampNeg)), (0, .ref (ad 0)), (1, .int x1), (2, .int x2)]) hx hb dX7_hold_76 rfl hl (by decide) rfl (fun ls hl => ?_)
            refine lv_aload_n hx hb dX7_hold_77 rfl (lv_at hl 1 rfl) ?_
            refine lv_iload_n hx hb dX7_hold_78 rfl (lv_at hl 2 rfl) ?_
            refine lv_iconst (v := (2 : Int32)) hx hb dX7_hold_79 (by decide) ?_
            refine lv_iload_n hx hb dX7_hold_80 rfl (lv_at hl 0 rfl) ?_
            refine lv_bipush (v := (16 : Int32)) hx hb dX7_hold_81 (by decide) ?_
            refine lv_idiv hx hb dX7_hold_83 (by decide) ?_
            refine lv_iadd hx hb dX7_hold_84 ?_
            refine lv_aload_n hx hb dX7_hold_85 rfl (lv_at hl 1 rfl) ?_
            refine lv_iload_n hx hb dX7_hold_86 rfl (lv_at hl 2 rfl) ?_
            refine lv_iconst (v := (2 : Int32)) hx hb dX7_hold_87 (by decide) ?_
            refine lv_iload_n hx hb dX7_hold_88 rfl (lv_at hl 0 rfl) ?_
            refine lv_bipush (v := (16 : Int32)) hx hb dX7_hold_89 (by decide) ?_
            refine lv_idiv hx hb dX7_hold_91 (by decide) ?_
            refine lv_iadd hx hb dX7_hold_92 ?_
            obtain ⟨o93, hc93, h⟩ := az_bnd h
            refine az_callVi (w2 := az_cM g ad (va_up (va_up V 1 o63.1) 2 o63.2)) (As := [.int x1, .int ((2 : Int32) + (((V 0) ((840 : Int32) + x2).toNatClampNeg) / (16 : Int32)))]) (rest := [.int ((2 : Int32) + (((V 0) ((840 : Int32) + x2).toNatClampNeg) / (16 : Int32))), .int x1, .ref (ad 0)]) ⟨hx, hb, hml, hown, hts⟩ hl.1 (kX7_ofReader l g ad (va_up (va_up V 1 o63.1) 2 o63.2) x1 ((2 : Int32) + (((V 0) ((840 : Int32) + x2).toNatClampNeg) / (16 : Int32))) o93 hc93) (cwV 2 hts gX7_hold_X7_ofReader rfl rfl rfl (by decide +kernel) ⟨Nat.le_of_ble_eq_true rfl, Nat.le_of_ble_eq_true rfl⟩) rfl hK hP hD hS hA [0, 1, 2, 3] [] [0, 1, 2, 3] rfl rfl rfl rfl rfl (by decide) rfl rfl rfl 0 rfl rfl rfl (Nat.le_of_ble_eq_true rfl) dX7_hold_93 ⟨Nat.zero_le _, Nat.zero_le _⟩ rfl (fun H locs hP hD hS => ?_)
            refine lv_iconst (v := (1 : Int32)) hx hb dX7_hold_96 (by decide) ?_
            refine lv_iload_n hx hb dX7_hold_97 rfl (lv_at hl 0 rfl) ?_
            refine lv_bipush (v := (16 : Int32)) hx hb dX7_hold_98 (by decide) ?_
            refine lv_irem hx hb dX7_hold_100 (by decide) ?_
            refine lv_ishl hx hb dX7_hold_101 ?_
            refine lv_ior hx hb dX7_hold_102 ?_
            obtain ⟨o103, hc103, h⟩ := az_bnd h
            refine az_callVv (w2 := az_cM g ad (va_up (va_up (va_up V 0 o103) 1 o63.1) 2 o63.2)) (As := [.int x1, .int ((2 : Int32) + (((V 0) ((840 : Int32) + x2).toNatClampNeg) / (16 : Int32))), .int (o93 ||| ((1 : Int32) <<< ((((V 0) ((840 : Int32) + x2).toNatClampNeg) - ((V 0) ((840 : Int32) + x2).toNatClampNeg) / (16 : Int32) * (16 : Int32)) &&& 31)))]) (rest := []) ⟨hx, hb, hml, hown, hts⟩ hl.1 (kX7_setReader l g ad (va_up (va_up V 1 o63.1) 2 o63.2) x1 ((2 : Int32) + (((V 0) ((840 : Int32) + x2).toNatClampNeg) / (16 : Int32))) (o93 ||| ((1 : Int32) <<< ((((V 0) ((840 : Int32) + x2).toNatClampNeg) - ((V 0) ((840 : Int32) + x2).toNatClampNeg) / (16 : Int32) * (16 : Int32)) &&& 31))) o103 hc103) (cwV 3 hts gX7_hold_X7_setReader rfl rfl rfl (by decide +kernel) ⟨Nat.le_of_ble_eq_true rfl, Nat.le_of_ble_eq_true rfl⟩) rfl hK hP hD hS hA [0, 1, 2, 3] [] [0, 1, 2, 3] rfl rfl rfl rfl rfl (by decide) rfl rfl rfl 0 rfl rfl rfl (Nat.le_of_ble_eq_true rfl) dX7_hold_103 ⟨Nat.zero_le _, Nat.zero_le _⟩ rfl (fun H locs hP hD hS => ?_)
            refine lv_iload_n hx hb dX7_hold_106 rfl (lv_at hl 0 rfl) ?_
            have hP : va_P g.1 az_cl (az_cM g ad (va_up (va_up (va_up V 0 o103) 1 o63.1) 2 o63.2)) _ := hP
            have hD : va_D A (az_cM g ad (va_up (va_up (va_up V 0 o103) 1 o63.1) 2 o63.2)) := hD
            rw [← Option.some.inj h]
            exact az_iret hx hb hr hlocks hK hP hD hS dX7_hold_107
          · replace h := az_neg c57 h
            refine lv_iconst (v := (0 : Int32)) hx hb dX7_hold_60 (by decide) ?_
            have hP : va_P g.1 az_cl (az_cM g ad (va_up (va_up (va_up V 0 (V 0)) 1 (V 1)) 2 u50)) _ := hP
            have hD : va_D A (az_cM g ad (va_up (va_up (va_up V 0 (V 0)) 1 (V 1)) 2 u50)) := hD
            rw [← Option.some.inj h]
            exact az_iret hx hb hr hlocks hK hP hD hS dX7_hold_61
        · replace h := az_pos c42 h
          refine lv_iconst (v := (3 : Int32)) hx hb dX7_hold_45 (by decide) ?_
          refine lv_goto (tgt := 50) hx hb dX7_hold_46 (by decide) ?_
          refine va_put (D := g.1) (ci := 7) (v := .int (3 : Int32)) (ty := .int) (C := RX7) (T := TX7) (N := 5) hx hb hts inX7_hold_RX7 tyX7 tyX7_ok nmX7 hown hK hP hD hS 0 rfl rfl 3 (Nat.le_of_ble_eq_true rfl) (hts _ (List.mem_of_getElem? (i := 2) rfl)) (fun _ h9 => h9) rfl (by decide +kernel) rfl rfl (Nat.le_of_ble_eq_true rfl) dX7_hold_50 (fun H locs hP hD hS => ?_)
          obtain ⟨u50, e50⟩ : ∃ w : Nat → Int32, w = upd (V 2) 1 (3 : Int32) := ⟨_, rfl⟩
          have hP : va_P g.1 az_cl (az_cM g ad (va_up V 2 u50)) H := by rw [e50]; exact hP
          have hD : va_D A (az_cM g ad (va_up V 2 u50)) := by rw [e50]; exact hD
          replace h := az_let e50 h
          refine lv_aload_n hx hb dX7_hold_53 rfl (lv_at hl 0 rfl) ?_
          refine va_get (D := g.1) (ci := 7) (v := .int (u50 1)) (C := RX7) (T := TX7) (N := 5) hx hb hts inX7_hold_RX7 hown hK hP 0 rfl rfl 3 (Nat.le_of_ble_eq_true rfl) (hts _ (List.mem_of_getElem? (i := 2) rfl)) (fun _ h9 => h9) rfl dX7_hold_54 ?_
          refine lv_if_le (tgt := 62) hx hb dX7_hold_57 (by decide) (fun c57 => ?_) (fun c57 => ?_)
          · replace h := az_pos c57 h
            refine lv_aload_n hx hb dX7_hold_62 rfl (lv_at hl 0 rfl) ?_
            obtain ⟨o63, hc63, h⟩ := az_bnd h
            refine az_callVv (w2 := az_cM g ad (va_up (va_up V 1 o63.1) 2 o63.2)) (As := []) (rest := []) ⟨hx, hb, hml, hown, hts⟩ hl.1 (kX7_keeps l g ad (va_up V 2 u50) o63 hc63) (cwV 0 hts gX7_hold_X7_keeps rfl rfl rfl (by decide +kernel) ⟨Nat.le_of_ble_eq_true rfl, Nat.le_of_ble_eq_true rfl⟩) rfl hK hP hD hS hA [0, 1, 2, 3] [] [0, 1, 2, 3] rfl rfl rfl rfl rfl (by decide) rfl rfl rfl 0 rfl rfl rfl (Nat.le_of_ble_eq_true rfl) dX7_hold_63 ⟨Nat.zero_le _, Nat.zero_le _⟩ rfl (fun H locs hP hD hS => ?_)
            refine lv_aload_n hx hb dX7_hold_66 rfl (lv_at hl 0 rfl) ?_
            refine va_get (D := g.1) (ci := 7) (v := .ref (ad 1)) (C := RX7) (T := TX7) (N := 5) hx hb hts inX7_hold_RX7 hown hK hP 0 rfl rfl 0 (Nat.le_of_ble_eq_true rfl) (hts _ (List.mem_of_getElem? (i := 1) rfl)) (fun _ h9 => h9) rfl dX7_hold_67 ?_
            refine lv_sipush (v := (840 : Int32)) hx hb dX7_hold_70 (by decide) ?_
            refine lv_iload_n hx hb dX7_hold_73 rfl (lv_at hl 2 rfl) ?_
            refine lv_iadd hx hb dX7_hold_74 ?_
            refine va_iald (D := g.1) (f := (V 0)) hx hb hK hP 1 0 rfl rfl (az_vin i40) dX7_hold_75 ?_
            refine lv_istore_n (lv' := [(3, .int ((V 0) ((840 : Int32) + x2).toNatClampNeg)), (0, .ref (ad 0)), (1, .int x1), (2, .int x2)]) hx hb dX7_hold_76 rfl hl (by decide) rfl (fun ls hl => ?_)
            refine lv_aload_n hx hb dX7_hold_77 rfl (lv_at hl 1 rfl) ?_
            refine lv_iload_n hx hb dX7_hold_78 rfl (lv_at hl 2 rfl) ?_
            refine lv_iconst (v := (2 : Int32)) hx hb dX7_hold_79 (by decide) ?_
            refine lv_iload_n hx hb dX7_hold_80 rfl (lv_at hl 0 rfl) ?_
            refine lv_bipush (v := (16 : Int32)) hx hb dX7_hold_81 (by decide) ?_
            refine lv_idiv hx hb dX7_hold_83 (by decide) ?_
            refine lv_iadd hx hb dX7_hold_84 ?_
            refine lv_aload_n hx hb dX7_hold_85 rfl (lv_at hl 1 rfl) ?_
            refine lv_iload_n hx hb dX7_hold_86 rfl (lv_at hl 2 rfl) ?_
            refine lv_iconst (v := (2 : Int32)) hx hb dX7_hold_87 (by decide) ?_
            refine lv_iload_n hx hb dX7_hold_88 rfl (lv_at hl 0 rfl) ?_
            refine lv_bipush (v := (16 : Int32)) hx hb dX7_hold_89 (by decide) ?_
            refine lv_idiv hx hb dX7_hold_91 (by decide) ?_
            refine lv_iadd hx hb dX7_hold_92 ?_
            obtain ⟨o93, hc93, h⟩ := az_bnd h
            refine az_callVi (w2 := az_cM g ad (va_up (va_up V 1 o63.1) 2 o63.2)) (As := [.int x1, .int ((2 : Int32) + (((V 0) ((840 : Int32) + x2).toNatClampNeg) / (16 : Int32)))]) (rest := [.int ((2 : Int32) + (((V 0) ((840 : Int32) + x2).toNatClampNeg) / (16 : Int32))), .int x1, .ref (ad 0)]) ⟨hx, hb, hml, hown, hts⟩ hl.1 (kX7_ofReader l g ad (va_up (va_up V 1 o63.1) 2 o63.2) x1 ((2 : Int32) + (((V 0) ((840 : Int32) + x2).toNatClampNeg) / (16 : Int32))) o93 hc93) (cwV 2 hts gX7_hold_X7_ofReader rfl rfl rfl (by decide +kernel) ⟨Nat.le_of_ble_eq_true rfl, Nat.le_of_ble_eq_true rfl⟩) rfl hK hP hD hS hA [0, 1, 2, 3] [] [0, 1, 2, 3] rfl rfl rfl rfl rfl (by decide) rfl rfl rfl 0 rfl rfl rfl (Nat.le_of_ble_eq_true rfl) dX7_hold_93 ⟨Nat.zero_le _, Nat.zero_le _⟩ rfl (fun H locs hP hD hS => ?_)
            refine lv_iconst (v := (1 : Int32)) hx hb dX7_hold_96 (by decide) ?_
            refine lv_iload_n hx hb dX7_hold_97 rfl (lv_at hl 0 rfl) ?_
            refine lv_bipush (v := (16 : Int32)) hx hb dX7_hold_98 (by decide) ?_
            refine lv_irem hx hb dX7_hold_100 (by decide) ?_
            refine lv_ishl hx hb dX7_hold_101 ?_
            refine lv_ior hx hb dX7_hold_102 ?_
            obtain ⟨o103, hc103, h⟩ := az_bnd h
            refine az_callVv (w2 := az_cM g ad (va_up (va_up (va_up V 0 o103) 1 o63.1) 2 o63.2)) (As := [.int x1, .int ((2 : Int32) + (((V 0) ((840 : Int32) + x2).toNatClampNeg) / (16 : Int32))), .int (o93 ||| ((1 : Int32) <<< ((((V 0) ((840 : Int32) + x2).toNatClampNeg) - ((V 0) ((840 : Int32) + x2).toNatClampNeg) / (16 : Int32) * (16 : Int32)) &&& 31)))]) (rest := []) ⟨hx, hb, hml, hown, hts⟩ hl.1 (kX7_setReader l g ad (va_up (va_up V 1 o63.1) 2 o63.2) x1 ((2 : Int32) + (((V 0) ((840 : Int32) + x2).toNatClampNeg) / (16 : Int32))) (o93 ||| ((1 : Int32) <<< ((((V 0) ((840 : Int32) + x2).toNatClampNeg) - ((V 0) ((840 : Int32) + x2).toNatClampNeg) / (16 : Int32) * (16 : Int32)) &&& 31))) o103 hc103) (cwV 3 hts gX7_hold_X7_setReader rfl rfl rfl (by decide +kernel) ⟨Nat.le_of_ble_eq_true rfl, Nat.le_of_ble_eq_true rfl⟩) rfl hK hP hD hS hA [0, 1, 2, 3] [] [0, 1, 2, 3] rfl rfl rfl rfl rfl (by decide) rfl rfl rfl 0 rfl rfl rfl (Nat.le_of_ble_eq_true rfl) dX7_hold_103 ⟨Nat.zero_le _, Nat.zero_le _⟩ rfl (fun H locs hP hD hS => ?_)
            refine lv_iload_n hx hb dX7_hold_106 rfl (lv_at hl 0 rfl) ?_
            have hP : va_P g.1 az_cl (az_cM g ad (va_up (va_up (va_up V 0 o103) 1 o63.1) 2 o63.2)) _ := hP
            have hD : va_D A (az_cM g ad (va_up (va_up (va_up V 0 o103) 1 o63.1) 2 o63.2)) := hD
            rw [← Option.some.inj h]
            exact az_iret hx hb hr hlocks hK hP hD hS dX7_hold_107
          · replace h := az_neg c57 h
            refine lv_iconst (v := (0 : Int32)) hx hb dX7_hold_60 (by decide) ?_
            have hP : va_P g.1 az_cl (az_cM g ad (va_up (va_up (va_up V 0 (V 0)) 1 (V 1)) 2 u50)) _ := hP
            have hD : va_D A (az_cM g ad (va_up (va_up (va_up V 0 (V 0)) 1 (V 1)) 2 u50)) := hD
            rw [← Option.some.inj h]
            exact az_iret hx hb hr hlocks hK hP hD hS dX7_hold_61
      · replace h := az_pos c24 h
        refine lv_iconst (v := (2 : Int32)) hx hb dX7_hold_27 (by decide) ?_
        refine lv_goto (tgt := 50) hx hb dX7_hold_28 (by decide) ?_
        refine va_put (D := g.1) (ci := 7) (v := .int (2 : Int32)) (ty := .int) (C := RX7) (T := TX7) (N := 5) hx hb hts inX7_hold_RX7 tyX7 tyX7_ok nmX7 hown hK hP hD hS 0 rfl rfl 3 (Nat.le_of_ble_eq_true rfl) (hts _ (List.mem_of_getElem? (i := 2) rfl)) (fun _ h9 => h9) rfl (by decide +kernel) rfl rfl (Nat.le_of_ble_eq_true rfl) dX7_hold_50 (fun H locs hP hD hS => ?_)
        obtain ⟨u50, e50⟩ : ∃ w : Nat → Int32, w = upd (V 2) 1 (2 : Int32) := ⟨_, rfl⟩
        have hP : va_P g.1 az_cl (az_cM g ad (va_up V 2 u50)) H := by rw [e50]; exact hP
        have hD : va_D A (az_cM g ad (va_up V 2 u50)) := by rw [e50]; exact hD
        replace h := az_let e50 h
        refine lv_aload_n hx hb dX7_hold_53 rfl (lv_at hl 0 rfl) ?_
        refine va_get (D := g.1) (ci := 7) (v := .int (u50 1)) (C := RX7) (T := TX7) (N := 5) hx hb hts inX7_hold_RX7 hown hK hP 0 rfl rfl 3 (Nat.le_of_ble_eq_true rfl) (hts _ (List.mem_of_getElem? (i := 2) rfl)) (fun _ h9 => h9) rfl dX7_hold_54 ?_
        refine lv_if_le (tgt := 62) hx hb dX7_hold_57 (by decide) (fun c57 => ?_) (fun c57 => ?_)
        · replace h := az_pos c57 h
          refine lv_aload_n hx hb dX7_hold_62 rfl (lv_at hl 0 rfl) ?_
          obtain ⟨o63, hc63, h⟩ := az_bnd h
          refine az_callVv (w2 := az_cM g ad (va_up (va_up V 1 o63.1) 2 o63.2)) (As := []) (rest := []) ⟨hx, hb, hml, hown, hts⟩ hl.1 (kX7_keeps l g ad (va_up V 2 u50) o63 hc63) (cwV 0 hts gX7_hold_X7_keeps rfl rfl rfl (by decide +kernel) ⟨Nat.le_of_ble_eq_true rfl, Nat.le_of_ble_eq_true rfl⟩) rfl hK hP hD hS hA [0, 1, 2, 3] [] [0, 1, 2, 3] rfl rfl rfl rfl rfl (by decide) rfl rfl rfl 0 rfl rfl rfl (Nat.le_of_ble_eq_true rfl) dX7_hold_63 ⟨Nat.zero_le _, Nat.zero_le _⟩ rfl (fun H locs hP hD hS => ?_)
          refine lv_aload_n hx hb dX7_hold_66 rfl (lv_at hl 0 rfl) ?_
          refine va_get (D := g.1) (ci := 7) (v := .ref (ad 1)) (C := RX7) (T := TX7) (N := 5) hx hb hts inX7_hold_RX7 hown hK hP 0 rfl rfl 0 (Nat.le_of_ble_eq_true rfl) (hts _ (List.mem_of_getElem? (i := 1) rfl)) (fun _ h9 => h9) rfl dX7_hold_67 ?_
          refine lv_sipush (v := (840 : Int32)) hx hb dX7_hold_70 (by decide) ?_
          refine lv_iload_n hx hb dX7_hold_73 rfl (lv_at hl 2 rfl) ?_
          refine lv_iadd hx hb dX7_hold_74 ?_
          obtain ⟨i75, h⟩ := az_ite h
          refine va_iald (D := g.1) (f := (V 0)) hx hb hK hP 1 0 rfl rfl (az_vin i75) dX7_hold_75 ?_
          refine lv_istore_n (lv' := [(3, .int ((V 0) ((840 : Int32) + x2).toNatClampNeg)), (0, .ref (ad 0)), (1, .int x1), (2, .int x2)]) hx hb dX7_hold_76 rfl hl (by decide) rfl (fun ls hl => ?_)
          refine lv_aload_n hx hb dX7_hold_77 rfl (lv_at hl 1 rfl) ?_
          refine lv_iload_n hx hb dX7_hold_78 rfl (lv_at hl 2 rfl) ?_
          refine lv_iconst (v := (2 : Int32)) hx hb dX7_hold_79 (by decide) ?_
          refine lv_iload_n hx hb dX7_hold_80 rfl (lv_at hl 0 rfl) ?_
          refine lv_bipush (v := (16 : Int32)) hx hb dX7_hold_81 (by decide) ?_
          refine lv_idiv hx hb dX7_hold_83 (by decide) ?_
          refine lv_iadd hx hb dX7_hold_84 ?_
          refine lv_aload_n hx hb dX7_hold_85 rfl (lv_at hl 1 rfl) ?_
          refine lv_iload_n hx hb dX7_hold_86 rfl (lv_at hl 2 rfl) ?_
          refine lv_iconst (v := (2 : Int32)) hx hb dX7_hold_87 (by decide) ?_
          refine lv_iload_n hx hb dX7_hold_88 rfl (lv_at hl 0 rfl) ?_
          refine lv_bipush (v := (16 : Int32)) hx hb dX7_hold_89 (by decide) ?_
          refine lv_idiv hx hb dX7_hold_91 (by decide) ?_
          refine lv_iadd hx hb dX7_hold_92 ?_
          obtain ⟨o93, hc93, h⟩ := az_bnd h
          refine az_callVi (w2 := az_cM g ad (va_up (va_up V 1 o63.1) 2 o63.2)) (As := [.int x1, .int ((2 : Int32) + (((V 0) ((840 : Int32) + x2).toNatClampNeg) / (16 : Int32)))]) (rest := [.int ((2 : Int32) + (((V 0) ((840 : Int32) + x2).toNatClampNeg) / (16 : Int32))), .int x1, .ref (ad 0)]) ⟨hx, hb, hml, hown, hts⟩ hl.1 (kX7_ofReader l g ad (va_up (va_up V 1 o63.1) 2 o63.2) x1 ((2 : Int32) + (((V 0) ((840 : Int32) + x2).toNatClampNeg) / (16 : Int32))) o93 hc93) (cwV 2 hts gX7_hold_X7_ofReader rfl rfl rfl (by decide +kernel) ⟨Nat.le_of_ble_eq_true rfl, Nat.le_of_ble_eq_true rfl⟩) rfl hK hP hD hS hA [0, 1, 2, 3] [] [0, 1, 2, 3] rfl rfl rfl rfl rfl (by decide) rfl rfl rfl 0 rfl rfl rfl (Nat.le_of_ble_eq_true rfl) dX7_hold_93 ⟨Nat.zero_le _, Nat.zero_le _⟩ rfl (fun H locs hP hD hS => ?_)
          refine lv_iconst (v := (1 : Int32)) hx hb dX7_hold_96 (by decide) ?_
          refine lv_iload_n hx hb dX7_hold_97 rfl (lv_at hl 0 rfl) ?_
          refine lv_bipush (v := (16 : Int32)) hx hb dX7_hold_98 (by decide) ?_
          refine lv_irem hx hb dX7_hold_100 (by decide) ?_
          refine lv_ishl hx hb dX7_hold_101 ?_
          refine lv_ior hx hb dX7_hold_102 ?_
          obtain ⟨o103, hc103, h⟩ := az_bnd h
          refine az_callVv (w2 := az_cM g ad (va_up (va_up (va_up V 0 o103) 1 o63.1) 2 o63.2)) (As := [.int x1, .int ((2 : Int32) + (((V 0) ((840 : Int32) + x2).toNatClampNeg) / (16 : Int32))), .int (o93 ||| ((1 : Int32) <<< ((((V 0) ((840 : Int32) + x2).toNatClampNeg) - ((V 0) ((840 : Int32) + x2).toNatClampNeg) / (16 : Int32) * (16 : Int32)) &&& 31)))]) (rest := []) ⟨hx, hb, hml, hown, hts⟩ hl.1 (kX7_setReader l g ad (va_up (va_up V 1 o63.1) 2 o63.2) x1 ((2 : Int32) + (((V 0) ((840 : Int32) + x2).toNatClampNeg) / (16 : Int32))) (o93 ||| ((1 : Int32) <<< ((((V 0) ((840 : Int32) + x2).toNatClampNeg) - ((V 0) ((840 : Int32) + x2).toNatClampNeg) / (16 : Int32) * (16 : Int32)) &&& 31))) o103 hc103) (cwV 3 hts gX7_hold_X7_setReader rfl rfl rfl (by decide +kernel) ⟨Nat.le_of_ble_eq_true rfl, Nat.le_of_ble_eq_true rfl⟩) rfl hK hP hD hS hA [0, 1, 2, 3] [] [0, 1, 2, 3] rfl rfl rfl rfl rfl (by decide) rfl rfl rfl 0 rfl rfl rfl (Nat.le_of_ble_eq_true rfl) dX7_hold_103 ⟨Nat.zero_le _, Nat.zero_le _⟩ rfl (fun H locs hP hD hS => ?_)
          refine lv_iload_n hx hb dX7_hold_106 rfl (lv_at hl 0 rfl) ?_
          have hP : va_P g.1 az_cl (az_cM g ad (va_up (va_up (va_up V 0 o103) 1 o63.1) 2 o63.2)) _ := hP
          have hD : va_D A (az_cM g ad (va_up (va_up (va_up V 0 o103) 1 o63.1) 2 o63.2)) := hD
          rw [← Option.some.inj h]
          exact az_iret hx hb hr hlocks hK hP hD hS dX7_hold_107
        · replace h := az_neg c57 h
          refine lv_iconst (v := (0 : Int32)) hx hb dX7_hold_60 (by decide) ?_
          have hP : va_P g.1 az_cl (az_cM g ad (va_up (va_up (va_up V 0 (V 0)) 1 (V 1)) 2 u50)) _ := hP
          have hD : va_D A (az_cM g ad (va_up (va_up (va_up V 0 (V 0)) 1 (V 1)) 2 u50)) := hD
          rw [← Option.some.inj h]
          exact az_iret hx hb hr hlocks hK hP hD hS dX7_hold_61
    · replace h := az_pos c12 h
      refine lv_iconst (v := (1 : Int32)) hx hb dX7_hold_15 (by decide) ?_
      refine lv_goto (tgt := 50) hx hb dX7_hold_16 (by decide) ?_
      refine va_put (D := g.1) (ci := 7) (v := .int (1 : Int32)) (ty := .int) (C := RX7) (T := TX7) (N := 5) hx hb hts inX7_hold_RX7 tyX7 tyX7_ok nmX7 hown hK hP hD hS 0 rfl rfl 3 (Nat.le_of_ble_eq_true rfl) (hts _ (List.mem_of_getElem? (i := 2) rfl)) (fun _ h9 => h9) rfl (by decide +kernel) rfl rfl (Nat.le_of_ble_eq_true rfl) dX7_hold_50 (fun H locs hP hD hS => ?_)
      obtain ⟨u50, e50⟩ : ∃ w : Nat → Int32, w = upd (V 2) 1 (1 : Int32) := ⟨_, rfl⟩
      have hP : va_P g.1 az_cl (az_cM g ad (va_up V 2 u50)) H := by rw [e50]; exact hP
      have hD : va_D A (az_cM g ad (va_up V 2 u50)) := by rw [e50]; exact hD
      replace h := az_let e50 h
      refine lv_aload_n hx hb dX7_hold_53 rfl (lv_at hl 0 rfl) ?_
      refine va_get (D := g.1) (ci := 7) (v := .int (u50 1)) (C := RX7) (T := TX7) (N := 5) hx hb hts inX7_hold_RX7 hown hK hP 0 rfl rfl 3 (Nat.le_of_ble_eq_true rfl) (hts _ (List.mem_of_getElem? (i := 2) rfl)) (fun _ h9 => h9) rfl dX7_hold_54 ?_
      refine lv_if_le (tgt := 62) hx hb dX7_hold_57 (by decide) (fun c57 => ?_) (fun c57 => ?_)
      · replace h := az_pos c57 h
        refine lv_aload_n hx hb dX7_hold_62 rfl (lv_at hl 0 rfl) ?_
        obtain ⟨o63, hc63, h⟩ := az_bnd h
        refine az_callVv (w2 := az_cM g ad (va_up (va_up V 1 o63.1) 2 o63.2)) (As := []) (rest := []) ⟨hx, hb, hml, hown, hts⟩ hl.1 (kX7_keeps l g ad (va_up V 2 u50) o63 hc63) (cwV 0 hts gX7_hold_X7_keeps rfl rfl rfl (by decide +kernel) ⟨Nat.le_of_ble_eq_true rfl, Nat.le_of_ble_eq_true rfl⟩) rfl hK hP hD hS hA [0, 1, 2, 3] [] [0, 1, 2, 3] rfl rfl rfl rfl rfl (by decide) rfl rfl rfl 0 rfl rfl rfl (Nat.le_of_ble_eq_true rfl) dX7_hold_63 ⟨Nat.zero_le _, Nat.zero_le _⟩ rfl (fun H locs hP hD hS => ?_)
        refine lv_aload_n hx hb dX7_hold_66 rfl (lv_at hl 0 rfl) ?_
        refine va_get (D := g.1) (ci := 7) (v := .ref (ad 1)) (C := RX7) (T := TX7) (N := 5) hx hb hts inX7_hold_RX7 hown hK hP 0 rfl rfl 0 (Nat.le_of_ble_eq_true rfl) (hts _ (List.mem_of_getElem? (i := 1) rfl)) (fun _ h9 => h9) rfl dX7_hold_67 ?_
        refine lv_sipush (v := (840 : Int32)) hx hb dX7_hold_70 (by decide) ?_
        refine lv_iload_n hx hb dX7_hold_73 rfl (lv_at hl 2 rfl) ?_
        refine lv_iadd hx hb dX7_hold_74 ?_
        obtain ⟨i75, h⟩ := az_ite h
        refine va_iald (D := g.1) (f := (V 0)) hx hb hK hP 1 0 rfl rfl (az_vin i75) dX7_hold_75 ?_
        refine lv_istore_n (lv' := [(3, .int ((V 0) ((840 : Int32) + x2).toNatClampNeg)), (0, .ref (ad 0)), (1, .int x1), (2, .int x2)]) hx hb dX7_hold_76 rfl hl (by decide) rfl (fun ls hl => ?_)
        refine lv_aload_n hx hb dX7_hold_77 rfl (lv_at hl 1 rfl) ?_
        refine lv_iload_n hx hb dX7_hold_78 rfl (lv_at hl 2 rfl) ?_
        refine lv_iconst (v := (2 : Int32)) hx hb dX7_hold_79 (by decide) ?_
        refine lv_iload_n hx hb dX7_hold_80 rfl (lv_at hl 0 rfl) ?_
        refine lv_bipush (v := (16 : Int32)) hx hb dX7_hold_81 (by decide) ?_
        refine lv_idiv hx hb dX7_hold_83 (by decide) ?_
        refine lv_iadd hx hb dX7_hold_84 ?_
        refine lv_aload_n hx hb dX7_hold_85 rfl (lv_at hl 1 rfl) ?_
        refine lv_iload_n hx hb dX7_hold_86 rfl (lv_at hl 2 rfl) ?_
        refine lv_iconst (v := (2 : Int32)) hx hb dX7_hold_87 (by decide) ?_
        refine lv_iload_n hx hb dX7_hold_88 rfl (lv_at hl 0 rfl) ?_
        refine lv_bipush (v := (16 : Int32)) hx hb dX7_hold_89 (by decide) ?_
        refine lv_idiv hx hb dX7_hold_91 (by decide) ?_
        refine lv_iadd hx hb dX7_hold_92 ?_
        obtain ⟨o93, hc93, h⟩ := az_bnd h
        refine az_callVi (w2 := az_cM g ad (va_up (va_up V 1 o63.1) 2 o63.2)) (As := [.int x1, .int ((2 : Int32) + (((V 0) ((840 : Int32) + x2).toNatClampNeg) / (16 : Int32)))]) (rest := [.int ((2 : Int32) + (((V 0) ((840 : Int32) + x2).toNatClampNeg) / (16 : Int32))), .int x1, .ref (ad 0)]) ⟨hx, hb, hml, hown, hts⟩ hl.1 (kX7_ofReader l g ad (va_up (va_up V 1 o63.1) 2 o63.2) x1 ((2 : Int32) + (((V 0) ((840 : Int32) + x2).toNatClampNeg) / (16 : Int32))) o93 hc93) (cwV 2 hts gX7_hold_X7_ofReader rfl rfl rfl (by decide +kernel) ⟨Nat.le_of_ble_eq_true rfl, Nat.le_of_ble_eq_true rfl⟩) rfl hK hP hD hS hA [0, 1, 2, 3] [] [0, 1, 2, 3] rfl rfl rfl rfl rfl (by decide) rfl rfl rfl 0 rfl rfl rfl (Nat.le_of_ble_eq_true rfl) dX7_hold_93 ⟨Nat.zero_le _, Nat.zero_le _⟩ rfl (fun H locs hP hD hS => ?_)
        refine lv_iconst (v := (1 : Int32)) hx hb dX7_hold_96 (by decide) ?_
        refine lv_iload_n hx hb dX7_hold_97 rfl (lv_at hl 0 rfl) ?_
        refine lv_bipush (v := (16 : Int32)) hx hb dX7_hold_98 (by decide) ?_
        refine lv_irem hx hb dX7_hold_100 (by decide) ?_
        refine lv_ishl hx hb dX7_hold_101 ?_
        refine lv_ior hx hb dX7_hold_102 ?_
        obtain ⟨o103, hc103, h⟩ := az_bnd h
        refine az_callVv (w2 := az_cM g ad (va_up (va_up (va_up V 0 o103) 1 o63.1) 2 o63.2)) (As := [.int x1, .int ((2 : Int32) + (((V 0) ((840 : Int32) + x2).toNatClampNeg) / (16 : Int32))), .int (o93 ||| ((1 : Int32) <<< ((((V 0) ((840 : Int32) + x2).toNatClampNeg) - ((V 0) ((840 : Int32) + x2).toNatClampNeg) / (16 : Int32) * (16 : Int32)) &&& 31)))]) (rest := []) ⟨hx, hb, hml, hown, hts⟩ hl.1 (kX7_setReader l g ad (va_up (va_up V 1 o63.1) 2 o63.2) x1 ((2 : Int32) + (((V 0) ((840 : Int32) + x2).toNatClampNeg) / (16 : Int32))) (o93 ||| ((1 : Int32) <<< ((((V 0) ((840 : Int32) + x2).toNatClampNeg) - ((V 0) ((840 : Int32) + x2).toNatClampNeg) / (16 : Int32) * (16 : Int32)) &&& 31))) o103 hc103) (cwV 3 hts gX7_hold_X7_setReader rfl rfl rfl (by decide +kernel) ⟨Nat.le_of_ble_eq_true rfl, Nat.le_of_ble_eq_true rfl⟩) rfl hK hP hD hS hA [0, 1, 2, 3] [] [0, 1, 2, 3] rfl rfl rfl rfl rfl (by decide) rfl rfl rfl 0 rfl rfl rfl (Nat.le_of_ble_eq_true rfl) dX7_hold_103 ⟨Nat.zero_le _, Nat.zero_le _⟩ rfl (fun H locs hP hD hS => ?_)
        refine lv_iload_n hx hb dX7_hold_106 rfl (lv_at hl 0 rfl) ?_
        have hP : va_P g.1 az_cl (az_cM g ad (va_up (va_up (va_up V 0 o103) 1 o63.1) 2 o63.2)) _ := hP
        have hD : va_D A (az_cM g ad (va_up (va_up (va_up V 0 o103) 1 o63.1) 2 o63.2)) := hD
        rw [← Option.some.inj h]
        exact az_iret hx hb hr hlocks hK hP hD hS dX7_hold_107
      · replace h := az_neg c57 h
        refine lv_iconst (v := (0 : Int32)) hx hb dX7_hold_60 (by decide) ?_
        have hP : va_P g.1 az_cl (az_cM g ad (va_up (va_up (va_up V 0 (V 0)) 1 (V 1)) 2 u50)) _ := hP
        have hD : va_D A (az_cM g ad (va_up (va_up (va_up V 0 (V 0)) 1 (V 1)) 2 u50)) := hD
        rw [← Option.some.inj h]
        exact az_iret hx hb hr hlocks hK hP hD hS dX7_hold_61

def FX7_holdRefusal (V : az_St) (x1 : Int32) (x2 : Int32) : Option (Int32) := (FX7_isReader x1).bind (fun o1 => if o1 = (0 : Int32) then (some ((1 : Int32))) else ((FX7_isBlock V x2).bind (fun o9 => if o9 = (0 : Int32) then (some ((1 : Int32))) else ((FX7_holds V x1 x2).bind (fun o22 => if o22 = (0 : Int32) then (some ((2 : Int32))) else (some ((0 : Int32))))))))
set_option maxHeartbeats 4000000 in
set_option maxRecDepth 100000 in
theorem kX7_holdRefusal (l : Launch) (g : az_G) (ad : Nat → Nat) (V : az_St) (x1 : Int32) (x2 : Int32) (o : Int32) (h : FX7_holdRefusal V x1 x2 = some o) : az_I l yX7_holdRefusal wsX7_holdRefusal ({ frames := 3, cells := 0, slots := 0, locals := 67 } : Room) [.ref (ad 0), .int x1, .int x2] g (az_cM g ad V) o (az_cM g ad V) := by
  refine az_body (cc := cX7_holdRefusal) (maxL := 3) (ret := (some .int)) (Qc := fun A => az_QI g (az_cM g ad V) o A) (by decide +kernel) rfl (Nat.le_of_ble_eq_true rfl) ?_
  intro p e s m args below meth c A hx hb hr hts hown hml hlocks hA hK hP hD hS ls hl
  have hl : lv_has ls 3 [(0, .ref (ad 0)), (1, .int x1), (2, .int x2)] := hl
  unfold FX7_holdRefusal at h
  refine lv_iload_n hx hb dX7_holdRefusal_0 rfl (lv_at hl 1 rfl) ?_
  obtain ⟨o1, hc1, h⟩ := az_bnd h
  refine az_callS0 (As := [.int x1]) (rest := []) ⟨hx, hb, hml, hown, hts⟩ hl.1 (kX7_isReader l g x1 o1 hc1) (va_cwS 1 hts gX7_holdRefusal_X7_isReader rfl rfl rfl (by decide +kernel) ⟨Nat.le_of_ble_eq_true rfl, Nat.le_of_ble_eq_true rfl⟩) rfl hK hP hS hA (Nat.le_of_ble_eq_true rfl) dX7_holdRefusal_1 ⟨Nat.zero_le _, Nat.zero_le _⟩ rfl (fun H locs hP hS => ?_)
  refine lv_if_eq (tgt := 15) hx hb dX7_holdRefusal_4 (by decide) (fun c4 => ?_) (fun c4 => ?_)
  · replace h := az_pos c4 h
    refine lv_iconst (v := (1 : Int32)) hx hb dX7_holdRefusal_15 (by decide) ?_
    refine lv_goto (tgt := 33) hx hb dX7_holdRefusal_16 (by decide) ?_
    have hP : va_P g.1 az_cl (az_cM g ad V) _ := hP
    have hD : va_D A (az_cM g ad V) := hD
    rw [← Option.some.inj h]
    exact az_iret hx hb hr hlocks hK hP hD hS dX7_holdRefusal_33
  · replace h := az_neg c4 h
    refine lv_aload_n hx hb dX7_holdRefusal_7 rfl (lv_at hl 0 rfl) ?_
    refine lv_iload_n hx hb dX7_holdRefusal_8 rfl (lv_at hl 2 rfl) ?_
    obtain ⟨o9, hc9, h⟩ := az_bnd h
    refine az_callVi (w2 := az_cM g ad V) (As := [.int x2]) (rest := []) ⟨hx, hb, hml, hown, hts⟩ hl.1 (kX7_isBlock l g ad V x2 o9 hc9) (cwV 1 hts gX7_holdRefusal_X7_isBlock rfl rfl rfl (by decide +kernel) ⟨Nat.le_of_ble_eq_true rfl, Nat.le_of_ble_eq_true rfl⟩) rfl hK hP hD hS hA [0, 1, 2, 3] [] [0, 1, 2, 3] rfl rfl rfl rfl rfl (by decide) rfl rfl rfl 0 rfl rfl rfl (Nat.le_of_ble_eq_true rfl) dX7_holdRefusal_9 ⟨Nat.zero_le _, Nat.zero_le _⟩ rfl (fun H locs hP hD hS => ?_)
    refine lv_if_ne (tgt := 19) hx hb dX7_holdRefusal_12 (by decide) (fun c12 => ?_) (fun c12 => ?_)
    · replace h := az_neg c12 h
      refine lv_aload_n hx hb dX7_holdRefusal_19 rfl (lv_at hl 0 rfl) ?_
      refine lv_iload_n hx hb dX7_holdRefusal_20 rfl (lv_at hl 1 rfl) ?_
      refine lv_iload_n hx hb dX7_holdRefusal_21 rfl (lv_at hl 2 rfl) ?_
      obtain ⟨o22, hc22, h⟩ := az_bnd h
      refine az_callVi (w2 := az_cM g ad V) (As := [.int x1, .int x2]) (rest := []) ⟨hx, hb, hml, hown, hts⟩ hl.1 (kX7_holds l g ad V x1 x2 o22 hc22) (cwV 2 hts gX7_holdRefusal_X7_holds rfl rfl rfl (by decide +kernel) ⟨Nat.le_of_ble_eq_true rfl, Nat.le_of_ble_eq_true rfl⟩) rfl hK hP hD hS hA [0, 1, 2, 3] [] [0, 1, 2, 3] rfl rfl rfl rfl rfl (by decide) rfl rfl rfl 0 rfl rfl rfl (Nat.le_of_ble_eq_true rfl) dX7_holdRefusal_22 ⟨Nat.zero_le _, Nat.zero_le _⟩ rfl (fun H locs hP hD hS => ?_)
      refine lv_if_ne (tgt := 32) hx hb dX7_holdRefusal_25 (by decide) (fun c25 => ?_) (fun c25 => ?_)
      · replace h := az_neg c25 h
        refine lv_iconst (v := (0 : Int32)) hx hb dX7_holdRefusal_32 (by decide) ?_
        have hP : va_P g.1 az_cl (az_cM g ad V) _ := hP
        have hD : va_D A (az_cM g ad V) := hD
        rw [← Option.some.inj h]
        exact az_iret hx hb hr hlocks hK hP hD hS dX7_holdRefusal_33
      · replace h := az_pos c25 h
        refine lv_iconst (v := (2 : Int32)) hx hb dX7_holdRefusal_28 (by decide) ?_
        refine lv_goto (tgt := 33) hx hb dX7_holdRefusal_29 (by decide) ?_
        have hP : va_P g.1 az_cl (az_cM g ad V) _ := hP
        have hD : va_D A (az_cM g ad V) := hD
        rw [← Option.some.inj h]
        exact az_iret hx hb hr hlocks hK hP hD hS dX7_holdRefusal_33
    · replace h := az_pos c12 h
      refine lv_iconst (v := (1 : Int32)) hx hb dX7_holdRefusal_15 (by decide) ?_
      refine lv_goto (tgt := 33) hx hb dX7_holdRefusal_16 (by decide) ?_
      have hP : va_P g.1 az_cl (az_cM g ad V) _ := hP
      have hD : va_D A (az_cM g ad V) := hD
      rw [← Option.some.inj h]
      exact az_iret hx hb hr hlocks hK hP hD hS dX7_holdRefusal_33

def FX7_release (V : az_St) (x1 : Int32) (x2 : Int32) : Option (Int32 × (Nat → Int32) × (Nat → Int32) × (Nat → Int32)) := (FX7_holdRefusal V x1 x2).bind (fun o4 => az_lt (upd (V 2) 1 o4) (fun u7 => if u7 1 ≤ (0 : Int32) then ((FX7_keeps (va_up V 2 u7)).bind (fun o20 => (FX7_ofReader (va_up (va_up V 1 o20.1) 2 o20.2) x1 ((2 : Int32) + (x2 / (16 : Int32)))).bind (fun o39 => (FX7_setReader (va_up (va_up V 1 o20.1) 2 o20.2) x1 ((2 : Int32) + (x2 / (16 : Int32))) (o39 ^^^ ((1 : Int32) <<< ((x2 - x2 / (16 : Int32) * (16 : Int32)) &&& 31)))).bind (fun o49 => (FX7_heldBy (va_up (va_up (va_up V 0 o49) 1 o20.1) 2 o20.2) x1).bind (fun o54 => some (o54, o49, o20.1, o20.2)))))) else (some ((0 : Int32), (V 0), (V 1), u7))))
theorem inX7_release_RX7 : ∀ w ∈ wsX70, w ∈ wsX7_release := az_inr [52, 53, 54, 55, 56] (by decide +kernel)
set_option maxHeartbeats 4000000 in
set_option maxRecDepth 100000 in
theorem kX7_release (l : Launch) (g : az_G) (ad : Nat → Nat) (V : az_St) (x1 : Int32) (x2 : Int32) (o : Int32 × (Nat → Int32) × (Nat → Int32) × (Nat → Int32)) (h : FX7_release V x1 x2 = some o) : az_I l yX7_release wsX7_release ({ frames := 4, cells := 0, slots := 0, locals := 89 } : Room) [.ref (ad 0), .int x1, .int x2] g (az_cM g ad V) o.1 (az_cM g ad (va_up (va_up (va_up V 0 o.2.1) 1 o.2.2.1) 2 o.2.2.2)) := by
  refine az_body (cc := cX7_release) (maxL := 3) (ret := (some .int)) (Qc := fun A => az_QI g (az_cM g ad (va_up (va_up (va_up V 0 o.2.1) 1 o.2.2.1) 2 o.2.2.2)) o.1 A) (by decide +kernel) rfl (Nat.le_of_ble_eq_true rfl) ?_
  intro p e s m args below meth c A hx hb hr hts hown hml hlocks hA hK hP hD hS ls hl
  have hl : lv_has ls 3 [(0, .ref (ad 0)), (1, .int x1), (2, .int x2)] := hl
  unfold FX7_release at h
  refine lv_aload_n hx hb dX7_release_0 rfl (lv_at hl 0 rfl) ?_
  refine lv_aload_n hx hb dX7_release_1 rfl (lv_at hl 0 rfl) ?_
  refine lv_iload_n hx hb dX7_release_2 rfl (lv_at hl 1 rfl) ?_
  refine lv_iload_n hx hb dX7_release_3 rfl (lv_at hl 2 rfl) ?_
  obtain ⟨o4, hc4, h⟩ := az_bnd h
  refine az_callVi (w2 := az_cM g ad V) (As := [.int x1, .int x2]) (rest := [.ref (ad 0)]) ⟨hx, hb, hml, hown, hts⟩ hl.1 (kX7_holdRefusal l g ad V x1 x2 o4 hc4) (cwV 2 hts gX7_release_X7_holdRefusal rfl rfl rfl (by decide +kernel) ⟨Nat.le_of_ble_eq_true rfl, Nat.le_of_ble_eq_true rfl⟩) rfl hK hP hD hS hA [0, 1, 2, 3] [] [0, 1, 2, 3] rfl rfl rfl rfl rfl (by decide) rfl rfl rfl 0 rfl rfl rfl (Nat.le_of_ble_eq_true rfl) dX7_release_4 ⟨Nat.zero_le _, Nat.zero_le _⟩ rfl (fun H locs hP hD hS => ?_)
  refine va_put (D := g.1) (ci := 7) (v := .int o4) (ty := .int) (C := RX7) (T := TX7) (N := 5) hx hb hts inX7_release_RX7 tyX7 tyX7_ok nmX7 hown hK hP hD hS 0 rfl rfl 3 (Nat.le_of_ble_eq_true rfl) (hts _ (List.mem_of_getElem? (i := 1) rfl)) (fun _ h9 => h9) rfl (by decide +kernel) rfl rfl (Nat.le_of_ble_eq_true rfl) dX7_release_7 (fun H locs hP hD hS => ?_)
  obtain ⟨u7, e7⟩ : ∃ w : Nat → Int32, w = upd (V 2) 1 o4 := ⟨_, rfl⟩
  have hP : va_P g.1 az_cl (az_cM g ad (va_up V 2 u7)) H := by rw [e7]; exact hP
  have hD : va_D A (az_cM g ad (va_up V 2 u7)) := by rw [e7]; exact hD
  replace h := az_let e7 h
  refine lv_aload_n hx hb dX7_release_10 rfl (lv_at hl 0 rfl) ?_
  refine va_get (D := g.1) (ci := 7) (v := .int (u7 1)) (C := RX7) (T := TX7) (N := 5) hx hb hts inX7_release_RX7 hown hK hP 0 rfl rfl 3 (Nat.le_of_ble_eq_true rfl) (hts _ (List.mem_of_getElem? (i := 1) rfl)) (fun _ h9 => h9) rfl dX7_release_11 ?_
  refine lv_if_le (tgt := 19) hx hb dX7_release_14 (by decide) (fun c14 => ?_) (fun c14 => ?_)
  · replace h := az_pos c14 h
    refine lv_aload_n hx hb dX7_release_19 rfl (lv_at hl 0 rfl) ?_
    obtain ⟨o20, hc20, h⟩ := az_bnd h
    refine az_callVv (w2 := az_cM g ad (va_up (va_up V 1 o20.1) 2 o20.2)) (As := []) (rest := []) ⟨hx, hb, hml, hown, hts⟩ hl.1 (kX7_keeps l g ad (va_up V 2 u7) o20 hc20) (cwV 0 hts gX7_release_X7_keeps rfl rfl rfl (by decide +kernel) ⟨Nat.le_of_ble_eq_true rfl, Nat.le_of_ble_eq_true rfl⟩) rfl hK hP hD hS hA [0, 1, 2, 3] [] [0, 1, 2, 3] rfl rfl rfl rfl rfl (by decide) rfl rfl rfl 0 rfl rfl rfl (Nat.le_of_ble_eq_true rfl) dX7_release_20 ⟨Nat.zero_le _, Nat.zero_le _⟩ rfl (fun H locs hP hD hS => ?_)
    refine lv_aload_n hx hb dX7_release_23 rfl (lv_at hl 0 rfl) ?_
    refine lv_iload_n hx hb dX7_release_24 rfl (lv_at hl 1 rfl) ?_
    refine lv_iconst (v := (2 : Int32)) hx hb dX7_release_25 (by decide) ?_
    refine lv_iload_n hx hb dX7_release_26 rfl (lv_at hl 2 rfl) ?_
    refine lv_bipush (v := (16 : Int32)) hx hb dX7_release_27 (by decide) ?_
    refine lv_idiv hx hb dX7_release_29 (by decide) ?_
    refine lv_iadd hx hb dX7_release_30 ?_
    refine lv_aload_n hx hb dX7_release_31 rfl (lv_at hl 0 rfl) ?_
    refine lv_iload_n hx hb dX7_release_32 rfl (lv_at hl 1 rfl) ?_
    refine lv_iconst (v := (2 : Int32)) hx hb dX7_release_33 (by decide) ?_
    refine lv_iload_n hx hb dX7_release_34 rfl (lv_at hl 2 rfl) ?_
    refine lv_bipush (v := (16 : Int32)) hx hb dX7_release_35 (by decide) ?_
    refine lv_idiv hx hb dX7_release_37 (by decide) ?_
    refine lv_iadd hx hb dX7_release_38 ?_
    obtain ⟨o39, hc39, h⟩ := az_bnd h
    refine az_callVi (w2 := az_cM g ad (va_up (va_up V 1 o20.1) 2 o20.2)) (As := [.int x1, .int ((2 : Int32) + (x2 / (16 : Int32)))]) (rest := [.int ((2 : Int32) + (x2 / (16 : Int32))), .int x1, .ref (ad 0)]) ⟨hx, hb, hml, hown, hts⟩ hl.1 (kX7_ofReader l g ad (va_up (va_up V 1 o20.1) 2 o20.2) x1 ((2 : Int32) + (x2 / (16 : Int32))) o39 hc39) (cwV 2 hts gX7_release_X7_ofReader rfl rfl rfl (by decide +kernel) ⟨Nat.le_of_ble_eq_true rfl, Nat.le_of_ble_eq_true rfl⟩) rfl hK hP hD hS hA [0, 1, 2, 3] [] [0, 1, 2, 3] rfl rfl rfl rfl rfl (by decide) rfl rfl rfl 0 rfl rfl rfl (Nat.le_of_ble_eq_true rfl) dX7_release_39 ⟨Nat.zero_le _, Nat.zero_le _⟩ rfl (fun H locs hP hD hS => ?_)
    refine lv_iconst (v := (1 : Int32)) hx hb dX7_release_42 (by decide) ?_
    refine lv_iload_n hx hb dX7_release_43 rfl (lv_at hl 2 rfl) ?_
    refine lv_bipush (v := (16 : Int32)) hx hb dX7_release_44 (by decide) ?_
    refine lv_irem hx hb dX7_release_46 (by decide) ?_
    refine lv_ishl hx hb dX7_release_47 ?_
    refine lv_ixor hx hb dX7_release_48 ?_
    obtain ⟨o49, hc49, h⟩ := az_bnd h
    refine az_callVv (w2 := az_cM g ad (va_up (va_up (va_up V 0 o49) 1 o20.1) 2 o20.2)) (As := [.int x1, .int ((2 : Int32) + (x2 / (16 : Int32))), .int (o39 ^^^ ((1 : Int32) <<< ((x2 - x2 / (16 : Int32) * (16 : Int32)) &&& 31)))]) (rest := []) ⟨hx, hb, hml, hown, hts⟩ hl.1 (kX7_setReader l g ad (va_up (va_up V 1 o20.1) 2 o20.2) x1 ((2 : Int32) + (x2 / (16 : Int32))) (o39 ^^^ ((1 : Int32) <<< ((x2 - x2 / (16 : Int32) * (16 : Int32)) &&& 31))) o49 hc49) (cwV 3 hts gX7_release_X7_setReader rfl rfl rfl (by decide +kernel) ⟨Nat.le_of_ble_eq_true rfl, Nat.le_of_ble_eq_true rfl⟩) rfl hK hP hD hS hA [0, 1, 2, 3] [] [0, 1, 2, 3] rfl rfl rfl rfl rfl (by decide) rfl rfl rfl 0 rfl rfl rfl (Nat.le_of_ble_eq_true rfl) dX7_release_49 ⟨Nat.zero_le _, Nat.zero_le _⟩ rfl (fun H locs hP hD hS => ?_)
    refine lv_aload_n hx hb dX7_release_52 rfl (lv_at hl 0 rfl) ?_
    refine lv_iload_n hx hb dX7_release_53 rfl (lv_at hl 1 rfl) ?_
    obtain ⟨o54, hc54, h⟩ := az_bnd h
    refine az_callVi (w2 := az_cM g ad (va_up (va_up (va_up V 0 o49) 1 o20.1) 2 o20.2)) (As := [.int x1]) (rest := []) ⟨hx, hb, hml, hown, hts⟩ hl.1 (kX7_heldBy l g ad (va_up (va_up (va_up V 0 o49) 1 o20.1) 2 o20.2) x1 o54 hc54) (cwV 1 hts gX7_release_X7_heldBy rfl rfl rfl (by decide +kernel) ⟨Nat.le_of_ble_eq_true rfl, Nat.le_of_ble_eq_true rfl⟩) rfl hK hP hD hS hA [0, 1, 2, 3] [] [0, 1, 2, 3] rfl rfl rfl rfl rfl (by decide) rfl rfl rfl 0 rfl rfl rfl (Nat.le_of_ble_eq_true rfl) dX7_release_54 ⟨Nat.zero_le _, Nat.zero_le _⟩ rfl (fun H locs hP hD hS => ?_)
    have hP : va_P g.1 az_cl (az_cM g ad (va_up (va_up (va_up V 0 o49) 1 o20.1) 2 o20.2)) _ := hP
    have hD : va_D A (az_cM g ad (va_up (va_up (va_up V 0 o49) 1 o20.1) 2 o20.2)) := hD
    rw [← Option.some.inj h]
    exact az_iret hx hb hr hlocks hK hP hD hS dX7_release_57
  · replace h := az_neg c14 h
    refine lv_iconst (v := (0 : Int32)) hx hb dX7_release_17 (by decide) ?_
    have hP : va_P g.1 az_cl (az_cM g ad (va_up (va_up (va_up V 0 (V 0)) 1 (V 1)) 2 u7)) _ := hP
    have hD : va_D A (az_cM g ad (va_up (va_up (va_up V 0 (V 0)) 1 (V 1)) 2 u7)) := hD
    rw [← Option.some.inj h]
    exact az_iret hx hb hr hlocks hK hP hD hS dX7_release_18

def FX7_read (V : az_St) (x1 : Int32) (x2 : Int32) : Option (Int32 × (Nat → Int32)) := (FX7_holdRefusal V x1 x2).bind (fun o4 => az_lt (upd (V 2) 1 o4) (fun u7 => if u7 1 ≤ (0 : Int32) then ((FX7_ofBlock (va_up V 2 u7) x2 (2 : Int32)).bind (fun o24 => some (o24, u7))) else (some ((0 : Int32), u7))))
theorem inX7_read_RX7 : ∀ w ∈ wsX70, w ∈ wsX7_read := az_inr [35, 36, 37, 38, 39] (by decide +kernel)
set_option maxHeartbeats 4000000 in
set_option maxRecDepth 100000 in
theorem kX7_read (l : Launch) (g : az_G) (ad : Nat → Nat) (V : az_St) (x1 : Int32) (x2 : Int32) (o : Int32 × (Nat → Int32)) (h : FX7_read V x1 x2 = some o) : az_I l yX7_read wsX7_read ({ frames := 4, cells := 0, slots := 0, locals := 89 } : Room) [.ref (ad 0), .int x1, .int x2] g (az_cM g ad V) o.1 (az_cM g ad (va_up V 2 o.2)) := by
  refine az_body (cc := cX7_read) (maxL := 3) (ret := (some .int)) (Qc := fun A => az_QI g (az_cM g ad (va_up V 2 o.2)) o.1 A) (by decide +kernel) rfl (Nat.le_of_ble_eq_true rfl) ?_
  intro p e s m args below meth c A hx hb hr hts hown hml hlocks hA hK hP hD hS ls hl
  have hl : lv_has ls 3 [(0, .ref (ad 0)), (1, .int x1), (2, .int x2)] := hl
  unfold FX7_read at h
  refine lv_aload_n hx hb dX7_read_0 rfl (lv_at hl 0 rfl) ?_
  refine lv_aload_n hx hb dX7_read_1 rfl (lv_at hl 0 rfl) ?_
  refine lv_iload_n hx hb dX7_read_2 rfl (lv_at hl 1 rfl) ?_
  refine lv_iload_n hx hb dX7_read_3 rfl (lv_at hl 2 rfl) ?_
  obtain ⟨o4, hc4, h⟩ := az_bnd h
  refine az_callVi (w2 := az_cM g ad V) (As := [.int x1, .int x2]) (rest := [.ref (ad 0)]) ⟨hx, hb, hml, hown, hts⟩ hl.1 (kX7_holdRefusal l g ad V x1 x2 o4 hc4) (cwV 2 hts gX7_read_X7_holdRefusal rfl rfl rfl (by decide +kernel) ⟨Nat.le_of_ble_eq_true rfl, Nat.le_of_ble_eq_true rfl⟩) rfl hK hP hD hS hA [0, 1, 2, 3] [] [0, 1, 2, 3] rfl rfl rfl rfl rfl (by decide) rfl rfl rfl 0 rfl rfl rfl (Nat.le_of_ble_eq_true rfl) dX7_read_4 ⟨Nat.zero_le _, Nat.zero_le _⟩ rfl (fun H locs hP hD hS => ?_)
  refine va_put (D := g.1) (ci := 7) (v := .int o4) (ty := .int) (C := RX7) (T := TX7) (N := 5) hx hb hts inX7_read_RX7 tyX7 tyX7_ok nmX7 hown hK hP hD hS 0 rfl rfl 3 (Nat.le_of_ble_eq_true rfl) (hts _ (List.mem_of_getElem? (i := 1) rfl)) (fun _ h9 => h9) rfl (by decide +kernel) rfl rfl (Nat.le_of_ble_eq_true rfl) dX7_read_7 (fun H locs hP hD hS => ?_)
  obtain ⟨u7, e7⟩ : ∃ w : Nat → Int32, w = upd (V 2) 1 o4 := ⟨_, rfl⟩
  have hP : va_P g.1 az_cl (az_cM g ad (va_up V 2 u7)) H := by rw [e7]; exact hP
  have hD : va_D A (az_cM g ad (va_up V 2 u7)) := by rw [e7]; exact hD
  replace h := az_let e7 h
  refine lv_aload_n hx hb dX7_read_10 rfl (lv_at hl 0 rfl) ?_
  refine va_get (D := g.1) (ci := 7) (v := .int (u7 1)) (C := RX7) (T := TX7) (N := 5) hx hb hts inX7_read_RX7 hown hK hP 0 rfl rfl 3 (Nat.le_of_ble_eq_true rfl) (hts _ (List.mem_of_getElem? (i := 1) rfl)) (fun _ h9 => h9) rfl dX7_read_11 ?_
  refine lv_if_le (tgt := 21) hx hb dX7_read_14 (by decide) (fun c14 => ?_) (fun c14 => ?_)
  · replace h := az_pos c14 h
    refine lv_aload_n hx hb dX7_read_21 rfl (lv_at hl 0 rfl) ?_
    refine lv_iload_n hx hb dX7_read_22 rfl (lv_at hl 2 rfl) ?_
    refine lv_iconst (v := (2 : Int32)) hx hb dX7_read_23 (by decide) ?_
    obtain ⟨o24, hc24, h⟩ := az_bnd h
    refine az_callVi (w2 := az_cM g ad (va_up V 2 u7)) (As := [.int x2, .int (2 : Int32)]) (rest := []) ⟨hx, hb, hml, hown, hts⟩ hl.1 (kX7_ofBlock l g ad (va_up V 2 u7) x2 (2 : Int32) o24 hc24) (cwV 2 hts gX7_read_X7_ofBlock rfl rfl rfl (by decide +kernel) ⟨Nat.le_of_ble_eq_true rfl, Nat.le_of_ble_eq_true rfl⟩) rfl hK hP hD hS hA [0, 1, 2, 3] [] [0, 1, 2, 3] rfl rfl rfl rfl rfl (by decide) rfl rfl rfl 0 rfl rfl rfl (Nat.le_of_ble_eq_true rfl) dX7_read_24 ⟨Nat.zero_le _, Nat.zero_le _⟩ rfl (fun H locs hP hD hS => ?_)
    have hP : va_P g.1 az_cl (az_cM g ad (va_up V 2 u7)) _ := hP
    have hD : va_D A (az_cM g ad (va_up V 2 u7)) := hD
    rw [← Option.some.inj h]
    exact az_iret hx hb hr hlocks hK hP hD hS dX7_read_27
  · replace h := az_neg c14 h
    refine lv_iconst (v := (0 : Int32)) hx hb dX7_read_17 (by decide) ?_
    refine lv_goto (tgt := 27) hx hb dX7_read_18 (by decide) ?_
    have hP : va_P g.1 az_cl (az_cM g ad (va_up V 2 u7)) _ := hP
    have hD : va_D A (az_cM g ad (va_up V 2 u7)) := hD
    rw [← Option.some.inj h]
    exact az_iret hx hb hr hlocks hK hP hD hS dX7_read_27

def FX7_isStalled (V : az_St) (x1 : Int32) : Option (Int32) := (FX7_isInside V x1).bind (fun o2 => if o2 = (0 : Int32) then (some ((0 : Int32))) else ((FX7_ofReader V x1 (1 : Int32)).bind (fun o11 => if o11 = (V 0) (3 : Int32).toNatClampNeg then (some ((0 : Int32))) else (some ((1 : Int32))))))
theorem inX7_isStalled_RX7 : ∀ w ∈ wsX70, w ∈ wsX7_isStalled := az_inr [11, 12, 13, 14, 15] (by decide +kernel)
set_option maxHeartbeats 4000000 in
set_option maxRecDepth 100000 in
theorem kX7_isStalled (l : Launch) (g : az_G) (ad : Nat → Nat) (V : az_St) (x1 : Int32) (o : Int32) (h : FX7_isStalled V x1 = some o) : az_I l yX7_isStalled wsX7_isStalled ({ frames := 2, cells := 0, slots := 0, locals := 43 } : Room) [.ref (ad 0), .int x1] g (az_cM g ad V) o (az_cM g ad V) := by
  refine az_body (cc := cX7_isStalled) (maxL := 2) (ret := (some .boolean)) (Qc := fun A => az_QI g (az_cM g ad V) o A) (by decide +kernel) rfl (Nat.le_of_ble_eq_true rfl) ?_
  intro p e s m args below meth c A hx hb hr hts hown hml hlocks hA hK hP hD hS ls hl
  have hl : lv_has ls 2 [(0, .ref (ad 0)), (1, .int x1)] := hl
  unfold FX7_isStalled at h
  refine lv_aload_n hx hb dX7_isStalled_0 rfl (lv_at hl 0 rfl) ?_
  refine lv_iload_n hx hb dX7_isStalled_1 rfl (lv_at hl 1 rfl) ?_
  obtain ⟨o2, hc2, h⟩ := az_bnd h
  refine az_callVi (w2 := az_cM g ad V) (As := [.int x1]) (rest := []) ⟨hx, hb, hml, hown, hts⟩ hl.1 (kX7_isInside l g ad V x1 o2 hc2) (cwV 1 hts gX7_isStalled_X7_isInside rfl rfl rfl (by decide +kernel) ⟨Nat.le_of_ble_eq_true rfl, Nat.le_of_ble_eq_true rfl⟩) rfl hK hP hD hS hA [0, 1, 2, 3] [] [0, 1, 2, 3] rfl rfl rfl rfl rfl (by decide) rfl rfl rfl 0 rfl rfl rfl (Nat.le_of_ble_eq_true rfl) dX7_isStalled_2 ⟨Nat.zero_le _, Nat.zero_le _⟩ rfl (fun H locs hP hD hS => ?_)
  refine lv_if_eq (tgt := 27) hx hb dX7_isStalled_5 (by decide) (fun c5 => ?_) (fun c5 => ?_)
  · replace h := az_pos c5 h
    refine lv_iconst (v := (0 : Int32)) hx hb dX7_isStalled_27 (by decide) ?_
    have hP : va_P g.1 az_cl (az_cM g ad V) _ := hP
    have hD : va_D A (az_cM g ad V) := hD
    rw [← Option.some.inj h]
    exact az_zret hx hb hr hlocks (az_nar (r := (0 : Int32)) (by decide +kernel)) hK hP hD hS dX7_isStalled_28
  · replace h := az_neg c5 h
    refine lv_aload_n hx hb dX7_isStalled_8 rfl (lv_at hl 0 rfl) ?_
    refine lv_iload_n hx hb dX7_isStalled_9 rfl (lv_at hl 1 rfl) ?_
    refine lv_iconst (v := (1 : Int32)) hx hb dX7_isStalled_10 (by decide) ?_
    obtain ⟨o11, hc11, h⟩ := az_bnd h
    refine az_callVi (w2 := az_cM g ad V) (As := [.int x1, .int (1 : Int32)]) (rest := []) ⟨hx, hb, hml, hown, hts⟩ hl.1 (kX7_ofReader l g ad V x1 (1 : Int32) o11 hc11) (cwV 2 hts gX7_isStalled_X7_ofReader rfl rfl rfl (by decide +kernel) ⟨Nat.le_of_ble_eq_true rfl, Nat.le_of_ble_eq_true rfl⟩) rfl hK hP hD hS hA [0, 1, 2, 3] [] [0, 1, 2, 3] rfl rfl rfl rfl rfl (by decide) rfl rfl rfl 0 rfl rfl rfl (Nat.le_of_ble_eq_true rfl) dX7_isStalled_11 ⟨Nat.zero_le _, Nat.zero_le _⟩ rfl (fun H locs hP hD hS => ?_)
    refine lv_aload_n hx hb dX7_isStalled_14 rfl (lv_at hl 0 rfl) ?_
    refine va_get (D := g.1) (ci := 7) (v := .ref (ad 1)) (C := RX7) (T := TX7) (N := 5) hx hb hts inX7_isStalled_RX7 hown hK hP 0 rfl rfl 0 (Nat.le_of_ble_eq_true rfl) (hts _ (List.mem_of_getElem? (i := 1) rfl)) (fun _ h9 => h9) rfl dX7_isStalled_15 ?_
    refine lv_iconst (v := (3 : Int32)) hx hb dX7_isStalled_18 (by decide) ?_
    refine va_iald (D := g.1) (f := (V 0)) hx hb hK hP 1 0 rfl rfl (az_vin (by decide +kernel)) dX7_isStalled_19 ?_
    refine lv_icmp_eq (tgt := 27) hx hb dX7_isStalled_20 (by decide) (fun c20 => ?_) (fun c20 => ?_)
    · replace h := az_pos c20 h
      refine lv_iconst (v := (0 : Int32)) hx hb dX7_isStalled_27 (by decide) ?_
      have hP : va_P g.1 az_cl (az_cM g ad V) _ := hP
      have hD : va_D A (az_cM g ad V) := hD
      rw [← Option.some.inj h]
      exact az_zret hx hb hr hlocks (az_nar (r := (0 : Int32)) (by decide +kernel)) hK hP hD hS dX7_isStalled_28
    · replace h := az_neg c20 h
      refine lv_iconst (v := (1 : Int32)) hx hb dX7_isStalled_23 (by decide) ?_
      refine lv_goto (tgt := 28) hx hb dX7_isStalled_24 (by decide) ?_
      have hP : va_P g.1 az_cl (az_cM g ad V) _ := hP
      have hD : va_D A (az_cM g ad V) := hD
      rw [← Option.some.inj h]
      exact az_zret hx hb hr hlocks (az_nar (r := (1 : Int32)) (by decide +kernel)) hK hP hD hS dX7_isStalled_28

def FX7_stallOf (V : az_St) (x1 : Int32) : Option (Int32) := (FX7_isStalled V x1).bind (fun o2 => if o2 = (0 : Int32) then (some ((0 : Int32))) else (some (((V 0) (4 : Int32).toNatClampNeg) - ((V 0) (5 : Int32).toNatClampNeg))))
theorem inX7_stallOf_RX7 : ∀ w ∈ wsX70, w ∈ wsX7_stallOf := az_inr [15, 16, 17, 18, 19] (by decide +kernel)
set_option maxHeartbeats 4000000 in
set_option maxRecDepth 100000 in
theorem kX7_stallOf (l : Launch) (g : az_G) (ad : Nat → Nat) (V : az_St) (x1 : Int32) (o : Int32) (h : FX7_stallOf V x1 = some o) : az_I l yX7_stallOf wsX7_stallOf ({ frames := 3, cells := 0, slots := 0, locals := 64 } : Room) [.ref (ad 0), .int x1] g (az_cM g ad V) o (az_cM g ad V) := by
  refine az_body (cc := cX7_stallOf) (maxL := 2) (ret := (some .int)) (Qc := fun A => az_QI g (az_cM g ad V) o A) (by decide +kernel) rfl (Nat.le_of_ble_eq_true rfl) ?_
  intro p e s m args below meth c A hx hb hr hts hown hml hlocks hA hK hP hD hS ls hl
  have hl : lv_has ls 2 [(0, .ref (ad 0)), (1, .int x1)] := hl
  unfold FX7_stallOf at h
  refine lv_aload_n hx hb dX7_stallOf_0 rfl (lv_at hl 0 rfl) ?_
  refine lv_iload_n hx hb dX7_stallOf_1 rfl (lv_at hl 1 rfl) ?_
  obtain ⟨o2, hc2, h⟩ := az_bnd h
  refine az_callVi (w2 := az_cM g ad V) (As := [.int x1]) (rest := []) ⟨hx, hb, hml, hown, hts⟩ hl.1 (kX7_isStalled l g ad V x1 o2 hc2) (cwV 1 hts gX7_stallOf_X7_isStalled rfl rfl rfl (by decide +kernel) ⟨Nat.le_of_ble_eq_true rfl, Nat.le_of_ble_eq_true rfl⟩) rfl hK hP hD hS hA [0, 1, 2, 3] [] [0, 1, 2, 3] rfl rfl rfl rfl rfl (by decide) rfl rfl rfl 0 rfl rfl rfl (Nat.le_of_ble_eq_true rfl) dX7_stallOf_2 ⟨Nat.zero_le _, Nat.zero_le _⟩ rfl (fun H locs hP hD hS => ?_)
  refine lv_if_eq (tgt := 24) hx hb dX7_stallOf_5 (by decide) (fun c5 => ?_) (fun c5 => ?_)
  · replace h := az_pos c5 h
    refine lv_iconst (v := (0 : Int32)) hx hb dX7_stallOf_24 (by decide) ?_
    have hP : va_P g.1 az_cl (az_cM g ad V) _ := hP
    have hD : va_D A (az_cM g ad V) := hD
    rw [← Option.some.inj h]
    exact az_iret hx hb hr hlocks hK hP hD hS dX7_stallOf_25
  · replace h := az_neg c5 h
    refine lv_aload_n hx hb dX7_stallOf_8 rfl (lv_at hl 0 rfl) ?_
    refine va_get (D := g.1) (ci := 7) (v := .ref (ad 1)) (C := RX7) (T := TX7) (N := 5) hx hb hts inX7_stallOf_RX7 hown hK hP 0 rfl rfl 0 (Nat.le_of_ble_eq_true rfl) (hts _ (List.mem_of_getElem? (i := 1) rfl)) (fun _ h9 => h9) rfl dX7_stallOf_9 ?_
    refine lv_iconst (v := (4 : Int32)) hx hb dX7_stallOf_12 (by decide) ?_
    refine va_iald (D := g.1) (f := (V 0)) hx hb hK hP 1 0 rfl rfl (az_vin (by decide +kernel)) dX7_stallOf_13 ?_
    refine lv_aload_n hx hb dX7_stallOf_14 rfl (lv_at hl 0 rfl) ?_
    refine va_get (D := g.1) (ci := 7) (v := .ref (ad 1)) (C := RX7) (T := TX7) (N := 5) hx hb hts inX7_stallOf_RX7 hown hK hP 0 rfl rfl 0 (Nat.le_of_ble_eq_true rfl) (hts _ (List.mem_of_getElem? (i := 1) rfl)) (fun _ h9 => h9) rfl dX7_stallOf_15 ?_
    refine lv_iconst (v := (5 : Int32)) hx hb dX7_stallOf_18 (by decide) ?_
    refine va_iald (D := g.1) (f := (V 0)) hx hb hK hP 1 0 rfl rfl (az_vin (by decide +kernel)) dX7_stallOf_19 ?_
    refine lv_isub hx hb dX7_stallOf_20 ?_
    refine lv_goto (tgt := 25) hx hb dX7_stallOf_21 (by decide) ?_
    have hP : va_P g.1 az_cl (az_cM g ad V) _ := hP
    have hD : va_D A (az_cM g ad V) := hD
    rw [← Option.some.inj h]
    exact az_iret hx hb hr hlocks hK hP hD hS dX7_stallOf_25

def FX7_waitingHeldBy_L4 : Nat → az_St → Int32 → Int32 → Int32 → Option (Int32)
  | 0, _, _, _, _ => none
  | n + 1, V, x1, y2, y3 => if (16 : Int32) * ((V 0) (0 : Int32).toNatClampNeg) ≤ y3 then (some (y2)) else ((FX7_isBlock V y3).bind (fun o20 => if o20 = (0 : Int32) then (FX7_waitingHeldBy_L4 n V x1 (y2 + (0 : Int32)) (y3 + (1 : Int32))) else ((FX7_holds V x1 y3).bind (fun o29 => if o29 = (0 : Int32) then (FX7_waitingHeldBy_L4 n V x1 (y2 + (0 : Int32)) (y3 + (1 : Int32))) else ((FX7_ofBlock V y3 (0 : Int32)).bind (fun o38 => if o38 = (3 : Int32) then (FX7_waitingHeldBy_L4 n V x1 (y2 + (1 : Int32)) (y3 + (1 : Int32))) else (FX7_waitingHeldBy_L4 n V x1 (y2 + (0 : Int32)) (y3 + (1 : Int32)))))))))
theorem FX7_waitingHeldBy_L4_s (n : Nat) (V : az_St) (x1 : Int32) (y2 : Int32) (y3 : Int32) : FX7_waitingHeldBy_L4 (n + 1) V x1 y2 y3 = (if (16 : Int32) * ((V 0) (0 : Int32).toNatClampNeg) ≤ y3 then (some (y2)) else ((FX7_isBlock V y3).bind (fun o20 => if o20 = (0 : Int32) then (FX7_waitingHeldBy_L4 n V x1 (y2 + (0 : Int32)) (y3 + (1 : Int32))) else ((FX7_holds V x1 y3).bind (fun o29 => if o29 = (0 : Int32) then (FX7_waitingHeldBy_L4 n V x1 (y2 + (0 : Int32)) (y3 + (1 : Int32))) else ((FX7_ofBlock V y3 (0 : Int32)).bind (fun o38 => if o38 = (3 : Int32) then (FX7_waitingHeldBy_L4 n V x1 (y2 + (1 : Int32)) (y3 + (1 : Int32))) else (FX7_waitingHeldBy_L4 n V x1 (y2 + (0 : Int32)) (y3 + (1 : Int32)))))))))) := rfl
def FX7_waitingHeldBy (V : az_St) (x1 : Int32) : Option (Int32) := FX7_waitingHeldBy_L4 az_fuel V x1 (0 : Int32) (0 : Int32)
theorem inX7_waitingHeldBy_RX7 : ∀ w ∈ wsX70, w ∈ wsX7_waitingHeldBy := az_inr [26, 27, 28, 29, 30] (by decide +kernel)
set_option maxHeartbeats 4000000 in
set_option maxRecDepth 100000 in
theorem kX7_waitingHeldBy (l : Launch) (g : az_G) (ad : Nat → Nat) (V : az_St) (x1 : Int32) (o : Int32) (h : FX7_waitingHeldBy V x1 = some o) : az_I l yX7_waitingHeldBy wsX7_waitingHeldBy ({ frames := 3, cells := 0, slots := 0, locals := 67 } : Room) [.ref (ad 0), .int x1] g (az_cM g ad V) o (az_cM g ad V) := by
  refine az_body (cc := cX7_waitingHeldBy) (maxL := 4) (ret := (some .int)) (Qc := fun A => az_QI g (az_cM g ad V) o A) (by decide +kernel) rfl (Nat.le_of_ble_eq_true rfl) ?_
  intro p e s m args below meth c A hx hb hr hts hown hml hlocks hA hK hP hD hS ls hl
  have hl : lv_has ls 4 [(0, .ref (ad 0)), (1, .int x1)] := hl
  unfold FX7_waitingHeldBy at h
  have hL4 : ∀ (n : Nat) (y2 : Int32) (y3 : Int32) (H : Heap) (locs : List Loc) (ls : Array Slot), FX7_waitingHeldBy_L4 n V x1 y2 y3 = some o → va_P g.1 az_cl (az_cM g ad V) H → va_D A (az_cM g ad V) → va_S A s.heap H locs → lv_has ls 4 [(0, .ref (ad 0)), (1, .int x1), (2, .int y2), (3, .int y3)] → W p l e ({ frames := 3, cells := 0, slots := 0, locals := 67 } : Room) s m args below meth c H locs 0 0 (MQ below (az_QI g (az_cM g ad V) o A) args s 0 0 A) (F0 m 4 ls []) := by
    intro n
    induction n with
    | zero => intro y2 y3 H locs ls h; exact az_non h
    | succ n ih =>
      intro y2 y3 H locs ls h hP hD hS hl
      rw [FX7_waitingHeldBy_L4_s] at h
      refine lv_iload_n hx hb dX7_waitingHeldBy_4 rfl (lv_at hl 3 rfl) ?_
      refine lv_bipush (v := (16 : Int32)) hx hb dX7_waitingHeldBy_5 (by decide) ?_
      refine lv_aload_n hx hb dX7_waitingHeldBy_7 rfl (lv_at hl 0 rfl) ?_
      refine va_get (D := g.1) (ci := 7) (v := .ref (ad 1)) (C := RX7) (T := TX7) (N := 5) hx hb hts inX7_waitingHeldBy_RX7 hown hK hP 0 rfl rfl 0 (Nat.le_of_ble_eq_true rfl) (hts _ (List.mem_of_getElem? (i := 1) rfl)) (fun _ h9 => h9) rfl dX7_waitingHeldBy_8 ?_
      refine lv_iconst (v := (0 : Int32)) hx hb dX7_waitingHeldBy_11 (by decide) ?_
      refine va_iald (D := g.1) (f := (V 0)) hx hb hK hP 1 0 rfl rfl (az_vin (by decide +kernel)) dX7_waitingHeldBy_12 ?_
      refine lv_imul hx hb dX7_waitingHeldBy_13 ?_
      refine lv_icmp_ge (tgt := 58) hx hb dX7_waitingHeldBy_14 (by decide) (fun c14 => ?_) (fun c14 => ?_)
      · replace h := az_pos c14 h
        refine lv_iload_n hx hb dX7_waitingHeldBy_58 rfl (lv_at hl 2 rfl) ?_
        have hP : va_P g.1 az_cl (az_cM g ad V) _ := hP
        have hD : va_D A (az_cM g ad V) := hD
        rw [← Option.some.inj h]
        exact az_iret hx hb hr hlocks hK hP hD hS dX7_waitingHeldBy_59
      · replace h := az_neg c14 h
        refine lv_iload_n hx hb dX7_waitingHeldBy_17 rfl (lv_at hl 2 rfl) ?_
        refine lv_aload_n hx hb dX7_waitingHeldBy_18 rfl (lv_at hl 0 rfl) ?_
        refine lv_iload_n hx hb dX7_waitingHeldBy_19 rfl (lv_at hl 3 rfl) ?_
        obtain ⟨o20, hc20, h⟩ := az_bnd h
        refine az_callVi (w2 := az_cM g ad V) (As := [.int y3]) (rest := [.int y2]) ⟨hx, hb, hml, hown, hts⟩ hl.1 (kX7_isBlock l g ad V y3 o20 hc20) (cwV 1 hts gX7_waitingHeldBy_X7_isBlock rfl rfl rfl (by decide +kernel) ⟨Nat.le_of_ble_eq_true rfl, Nat.le_of_ble_eq_true rfl⟩) rfl hK hP hD hS hA [0, 1, 2, 3] [] [0, 1, 2, 3] rfl rfl rfl rfl rfl (by decide) rfl rfl rfl 0 rfl rfl rfl (Nat.le_of_ble_eq_true rfl) dX7_waitingHeldBy_20 ⟨Nat.zero_le _, Nat.zero_le _⟩ rfl (fun H locs hP hD hS => ?_)
        refine lv_if_eq (tgt := 49) hx hb dX7_waitingHeldBy_23 (by decide) (fun c23 => ?_) (fun c23 => ?_)
        · replace h := az_pos c23 h
          refine lv_iconst (v := (0 : Int32)) hx hb dX7_waitingHeldBy_49 (by decide) ?_
          refine lv_iadd hx hb dX7_waitingHeldBy_50 ?_
          refine lv_istore_n (lv' := [(2, .int (y2 + (0 : Int32))), (0, .ref (ad 0)), (1, .int x1), (3, .int y3)]) hx hb dX7_waitingHeldBy_51 rfl hl (by decide) rfl (fun ls hl => ?_)
          refine lv_iinc (v := y3 + (1 : Int32)) (lv' := [(3, .int (y3 + (1 : Int32))), (2, .int (y2 + (0 : Int32))), (0, .ref (ad 0)), (1, .int x1)]) hx hb dX7_waitingHeldBy_52 hl (k := 3) rfl (rfl) (by decide) rfl (fun ls hl => ?_)
          refine lv_goto (tgt := 4) hx hb dX7_waitingHeldBy_55 (by decide) ?_
          have hP : va_P g.1 az_cl (az_cM g ad V) _ := hP
          have hD : va_D A (az_cM g ad V) := hD
          exact ih (y2 + (0 : Int32)) (y3 + (1 : Int32)) _ _ ls h hP hD hS (lv_sub hl [2, 3, 1, 0] rfl)
        · replace h := az_neg c23 h
          refine lv_aload_n hx hb dX7_waitingHeldBy_26 rfl (lv_at hl 0 rfl) ?_
          refine lv_iload_n hx hb dX7_waitingHeldBy_27 rfl (lv_at hl 1 rfl) ?_
          refine lv_iload_n hx hb dX7_waitingHeldBy_28 rfl (lv_at hl 3 rfl) ?_
          obtain ⟨o29, hc29, h⟩ := az_bnd h
          refine az_callVi (w2 := az_cM g ad V) (As := [.int x1, .int y3]) (rest := [.int y2]) ⟨hx, hb, hml, hown, hts⟩ hl.1 (kX7_holds l g ad V x1 y3 o29 hc29) (cwV 2 hts gX7_waitingHeldBy_X7_holds rfl rfl rfl (by decide +kernel) ⟨Nat.le_of_ble_eq_true rfl, Nat.le_of_ble_eq_true rfl⟩) rfl hK hP hD hS hA [0, 1, 2, 3] [] [0, 1, 2, 3] rfl rfl rfl rfl rfl (by decide) rfl rfl rfl 0 rfl rfl rfl (Nat.le_of_ble_eq_true rfl) dX7_waitingHeldBy_29 ⟨Nat.zero_le _, Nat.zero_le _⟩ rfl (fun H locs hP hD hS => ?_)
          refine lv_if_eq (tgt := 49) hx hb dX7_waitingHeldBy_32 (by decide) (fun c32 => ?_) (fun c32 => ?_)
          · replace h := az_pos c32 h
            refine lv_iconst (v := (0 : Int32)) hx hb dX7_waitingHeldBy_49 (by decide) ?_
            refine lv_iadd hx hb dX7_waitingHeldBy_50 ?_
            refine lv_istore_n (lv' := [(2, .int (y2 + (0 : Int32))), (0, .ref (ad 0)), (1, .int x1), (3, .int y3)]) hx hb dX7_waitingHeldBy_51 rfl hl (by decide) rfl (fun ls hl => ?_)
            refine lv_iinc (v := y3 + (1 : Int32)) (lv' := [(3, .int (y3 + (1 : Int32))), (2, .int (y2 + (0 : Int32))), (0, .ref (ad 0)), (1, .int x1)]) hx hb dX7_waitingHeldBy_52 hl (k := 3) rfl (rfl) (by decide) rfl (fun ls hl => ?_)
            refine lv_goto (tgt := 4) hx hb dX7_waitingHeldBy_55 (by decide) ?_
            have hP : va_P g.1 az_cl (az_cM g ad V) _ := hP
            have hD : va_D A (az_cM g ad V) := hD
            exact ih (y2 + (0 : Int32)) (y3 + (1 : Int32)) _ _ ls h hP hD hS (lv_sub hl [2, 3, 1, 0] rfl)
          · replace h := az_neg c32 h
            refine lv_aload_n hx hb dX7_waitingHeldBy_35 rfl (lv_at hl 0 rfl) ?_
            refine lv_iload_n hx hb dX7_waitingHeldBy_36 rfl (lv_at hl 3 rfl) ?_
            refine lv_iconst (v := (0 : Int32)) hx hb dX7_waitingHeldBy_37 (by decide) ?_
            obtain ⟨o38, hc38, h⟩ := az_bnd h
            refine az_callVi (w2 := az_cM g ad V) (As := [.int y3, .int (0 : Int32)]) (rest := [.int y2]) ⟨hx, hb, hml, hown, hts⟩ hl.1 (kX7_ofBlock l g ad V y3 (0 : Int32) o38 hc38) (cwV 2 hts gX7_waitingHeldBy_X7_ofBlock rfl rfl rfl (by decide +kernel) ⟨Nat.le_of_ble_eq_true rfl, Nat.le_of_ble_eq_true rfl⟩) rfl hK hP hD hS hA [0, 1, 2, 3] [] [0, 1, 2, 3] rfl rfl rfl rfl rfl (by decide) rfl rfl rfl 0 rfl rfl rfl (Nat.le_of_ble_eq_true rfl) dX7_waitingHeldBy_38 ⟨Nat.zero_le _, Nat.zero_le _⟩ rfl (fun H locs hP hD hS => ?_)
            refine lv_iconst (v := (3 : Int32)) hx hb dX7_waitingHeldBy_41 (by decide) ?_
            refine lv_icmp_ne (tgt := 49) hx hb dX7_waitingHeldBy_42 (by decide) (fun c42 => ?_) (fun c42 => ?_)
            · replace h := az_neg c42 h
              refine lv_iconst (v := (0 : Int32)) hx hb dX7_waitingHeldBy_49 (by decide) ?_
              refine lv_iadd hx hb dX7_waitingHeldBy_50 ?_
              refine lv_istore_n (lv' := [(2, .int (y2 + (0 : Int32))), (0, .ref (ad 0)), (1, .int x1), (3, .int y3)]) hx hb dX7_waitingHeldBy_51 rfl hl (by decide) rfl (fun ls hl => ?_)
              refine lv_iinc (v := y3 + (1 : Int32)) (lv' := [(3, .int (y3 + (1 : Int32))), (2, .int (y2 + (0 : Int32))), (0, .ref (ad 0)), (1, .int x1)]) hx hb dX7_waitingHeldBy_52 hl (k := 3) rfl (rfl) (by decide) rfl (fun ls hl => ?_)
              refine lv_goto (tgt := 4) hx hb dX7_waitingHeldBy_55 (by decide) ?_
              have hP : va_P g.1 az_cl (az_cM g ad V) _ := hP
              have hD : va_D A (az_cM g ad V) := hD
              exact ih (y2 + (0 : Int32)) (y3 + (1 : Int32)) _ _ ls h hP hD hS (lv_sub hl [2, 3, 1, 0] rfl)
            · replace h := az_pos c42 h
              refine lv_iconst (v := (1 : Int32)) hx hb dX7_waitingHeldBy_45 (by decide) ?_
              refine lv_goto (tgt := 50) hx hb dX7_waitingHeldBy_46 (by decide) ?_
              refine lv_iadd hx hb dX7_waitingHeldBy_50 ?_
              refine lv_istore_n (lv' := [(2, .int (y2 + (1 : Int32))), (0, .ref (ad 0)), (1, .int x1), (3, .int y3)]) hx hb dX7_waitingHeldBy_51 rfl hl (by decide) rfl (fun ls hl => ?_)
              refine lv_iinc (v := y3 + (1 : Int32)) (lv' := [(3, .int (y3 + (1 : Int32))), (2, .int (y2 + (1 : Int32))), (0, .ref (ad 0)), (1, .int x1)]) hx hb dX7_waitingHeldBy_52 hl (k := 3) rfl (rfl) (by decide) rfl (fun ls hl => ?_)
              refine lv_goto (tgt := 4) hx hb dX7_waitingHeldBy_55 (by decide) ?_
              have hP : va_P g.1 az_cl (az_cM g ad V) _ := hP
              have hD : va_D A (az_cM g ad V) := hD
              exact ih (y2 + (1 : Int32)) (y3 + (1 : Int32)) _ _ ls h hP hD hS (lv_sub hl [2, 3, 1, 0] rfl)
  refine lv_iconst (v := (0 : Int32)) hx hb dX7_waitingHeldBy_0 (by decide) ?_
  refine lv_istore_n (lv' := [(2, .int (0 : Int32)), (0, .ref (ad 0)), (1, .int x1)]) hx hb dX7_waitingHeldBy_1 rfl hl (by decide) rfl (fun ls hl => ?_)
  refine lv_iconst (v := (0 : Int32)) hx hb dX7_waitingHeldBy_2 (by decide) ?_
  refine lv_istore_n (lv' := [(3, .int (0 : Int32)), (2, .int (0 : Int32)), (0, .ref (ad 0)), (1, .int x1)]) hx hb dX7_waitingHeldBy_3 rfl hl (by decide) rfl (fun ls hl => ?_)
  have hP : va_P g.1 az_cl (az_cM g ad V) _ := hP
  have hD : va_D A (az_cM g ad V) := hD
  exact hL4 az_fuel (0 : Int32) (0 : Int32) _ _ ls h hP hD hS (lv_sub hl [2, 3, 1, 0] rfl)

def FX7_reader (V : az_St) (x1 : Int32) (x2 : Int32) : Option (Int32 × (Nat → Int32)) := (FX7_isReader x1).bind (fun o2 => if o2 = (0 : Int32) then (az_lt (upd (V 2) 1 (1 : Int32)) (fun u29 => if u29 1 ≤ (0 : Int32) then (if x2 = (0 : Int32) then ((FX7_ofReader (va_up V 2 u29) x1 (0 : Int32)).bind (fun o75 => some (o75, u29))) else (if x2 = (1 : Int32) then ((FX7_isInside (va_up V 2 u29) x1).bind (fun o81 => if o81 = (0 : Int32) then (some ((-1 : Int32), u29)) else ((FX7_ofReader (va_up V 2 u29) x1 (1 : Int32)).bind (fun o90 => some (o90, u29))))) else (if x2 = (2 : Int32) then ((FX7_heldBy (va_up V 2 u29) x1).bind (fun o100 => some (o100, u29))) else (if x2 = (3 : Int32) then ((FX7_stallOf (va_up V 2 u29) x1).bind (fun o106 => some (o106, u29))) else ((FX7_waitingHeldBy (va_up V 2 u29) x1).bind (fun o112 => some (o112, u29))))))) else (some ((0 : Int32), u29)))) else ((FX7_isIn x2.toInt64 (0 : Int64) (4 : Int64)).bind (fun o18 => if o18 = (0 : Int32) then (az_lt (upd (V 2) 1 (2 : Int32)) (fun u29 => if u29 1 ≤ (0 : Int32) then (if x2 = (0 : Int32) then ((FX7_ofReader (va_up V 2 u29) x1 (0 : Int32)).bind (fun o75 => some (o75, u29))) else (if x2 = (1 : Int32) then ((FX7_isInside (va_up V 2 u29) x1).bind (fun o81 => if o81 = (0 : Int32) then (some ((-1 : Int32), u29)) else ((FX7_ofReader (va_up V 2 u29) x1 (1 : Int32)).bind (fun o90 => some (o90, u29))))) else (if x2 = (2 : Int32) then ((FX7_heldBy (va_up V 2 u29) x1).bind (fun o100 => some (o100, u29))) else (if x2 = (3 : Int32) then ((FX7_stallOf (va_up V 2 u29) x1).bind (fun o106 => some (o106, u29))) else ((FX7_waitingHeldBy (va_up V 2 u29) x1).bind (fun o112 => some (o112, u29))))))) else (some ((0 : Int32), u29)))) else (az_lt (upd (V 2) 1 (0 : Int32)) (fun u29 => if u29 1 ≤ (0 : Int32) then (if x2 = (0 : Int32) then ((FX7_ofReader (va_up V 2 u29) x1 (0 : Int32)).bind (fun o75 => some (o75, u29))) else (if x2 = (1 : Int32) then ((FX7_isInside (va_up V 2 u29) x1).bind (fun o81 => if o81 = (0 : Int32) then (some ((-1 : Int32), u29)) else ((FX7_ofReader (va_up V 2 u29) x1 (1 : Int32)).bind (fun o90 => some (o90, u29))))) else (if x2 = (2 : Int32) then ((FX7_heldBy (va_up V 2 u29) x1).bind (fun o100 => some (o100, u29))) else (if x2 = (3 : Int32) then ((FX7_stallOf (va_up V 2 u29) x1).bind (fun o106 => some (o106, u29))) else ((FX7_waitingHeldBy (va_up V 2 u29) x1).bind (fun o112 => some (o112, u29))))))) else (some ((0 : Int32), u29)))))))
theorem inX7_reader_RX7 : ∀ w ∈ wsX70, w ∈ wsX7_reader := az_inr [59, 60, 61, 62, 63] (by decide +kernel)
set_option maxHeartbeats 4000000 in
set_option maxRecDepth 100000 in
theorem kX7_reader (l : Launch) (g : az_G) (ad : Nat → Nat) (V : az_St) (x1 : Int32) (x2 : Int32) (o : Int32 × (Nat → Int32)) (h : FX7_reader V x1 x2 = some o) : az_I l yX7_reader wsX7_reader ({ frames := 4, cells := 0, slots := 0, locals := 90 } : Room) [.ref (ad 0), .int x1, .int x2] g (az_cM g ad V) o.1 (az_cM g ad (va_up V 2 o.2)) := by
  refine az_body (cc := cX7_reader) (maxL := 3) (ret := (some .int)) (Qc := fun A => az_QI g (az_cM g ad (va_up V 2 o.2)) o.1 A) (by decide +kernel) rfl (Nat.le_of_ble_eq_true rfl) ?_
  intro p e s m args below meth c A hx hb hr hts hown hml hlocks hA hK hP hD hS ls hl
  have hl : lv_has ls 3 [(0, .ref (ad 0)), (1, .int x1), (2, .int x2)] := hl
  unfold FX7_reader at h
  refine lv_aload_n hx hb dX7_reader_0 rfl (lv_at hl 0 rfl) ?_
  refine lv_iload_n hx hb dX7_reader_1 rfl (lv_at hl 1 rfl) ?_
  obtain ⟨o2, hc2, h⟩ := az_bnd h
  refine az_callS0 (As := [.int x1]) (rest := [.ref (ad 0)]) ⟨hx, hb, hml, hown, hts⟩ hl.1 (kX7_isReader l g x1 o2 hc2) (va_cwS 1 hts gX7_reader_X7_isReader rfl rfl rfl (by decide +kernel) ⟨Nat.le_of_ble_eq_true rfl, Nat.le_of_ble_eq_true rfl⟩) rfl hK hP hS hA (Nat.le_of_ble_eq_true rfl) dX7_reader_2 ⟨Nat.zero_le _, Nat.zero_le _⟩ rfl (fun H locs hP hS => ?_)
  refine lv_if_ne (tgt := 12) hx hb dX7_reader_5 (by decide) (fun c5 => ?_) (fun c5 => ?_)
  · replace h := az_neg c5 h
    refine lv_iload_n hx hb dX7_reader_12 rfl (lv_at hl 2 rfl) ?_
    refine lv_i2l (v := x2.toInt64) hx hb dX7_reader_13 rfl ?_
    refine lv_lconst (v := (0 : Int64)) hx hb dX7_reader_14 (by decide) ?_
    refine lv_ldc2 (v := (4 : Int64)) hx hb hown (hts _ (List.mem_of_getElem? (i := 1) rfl)) dX7_reader_15 ?_
    obtain ⟨o18, hc18, h⟩ := az_bnd h
    refine az_callS0 (As := [.long x2.toInt64, .long (0 : Int64), .long (4 : Int64)]) (rest := [.ref (ad 0)]) ⟨hx, hb, hml, hown, hts⟩ hl.1 (kX7_isIn l g x2.toInt64 (0 : Int64) (4 : Int64) o18 hc18) (va_cwS 3 hts gX7_reader_X7_isIn rfl rfl rfl (by decide +kernel) ⟨Nat.le_of_ble_eq_true rfl, Nat.le_of_ble_eq_true rfl⟩) rfl hK hP hS hA (Nat.le_of_ble_eq_true rfl) dX7_reader_18 ⟨Nat.zero_le _, Nat.zero_le _⟩ rfl (fun H locs hP hS => ?_)
    refine lv_if_ne (tgt := 28) hx hb dX7_reader_21 (by decide) (fun c21 => ?_) (fun c21 => ?_)
    · replace h := az_neg c21 h
      refine lv_iconst (v := (0 : Int32)) hx hb dX7_reader_28 (by decide) ?_
      refine va_put (D := g.1) (ci := 7) (v := .int (0 : Int32)) (ty := .int) (C := RX7) (T := TX7) (N := 5) hx hb hts inX7_reader_RX7 tyX7 tyX7_ok nmX7 hown hK hP hD hS 0 rfl rfl 3 (Nat.le_of_ble_eq_true rfl) (hts _ (List.mem_of_getElem? (i := 2) rfl)) (fun _ h9 => h9) rfl (by decide +kernel) rfl rfl (Nat.le_of_ble_eq_true rfl) dX7_reader_29 (fun H locs hP hD hS => ?_)
      obtain ⟨u29, e29⟩ : ∃ w : Nat → Int32, w = upd (V 2) 1 (0 : Int32) := ⟨_, rfl⟩
      have hP : va_P g.1 az_cl (az_cM g ad (va_up V 2 u29)) H := by rw [e29]; exact hP
      have hD : va_D A (az_cM g ad (va_up V 2 u29)) := by rw [e29]; exact hD
      replace h := az_let e29 h
      refine lv_aload_n hx hb dX7_reader_32 rfl (lv_at hl 0 rfl) ?_
      refine va_get (D := g.1) (ci := 7) (v := .int (u29 1)) (C := RX7) (T := TX7) (N := 5) hx hb hts inX7_reader_RX7 hown hK hP 0 rfl rfl 3 (Nat.le_of_ble_eq_true rfl) (hts _ (List.mem_of_getElem? (i := 2) rfl)) (fun _ h9 => h9) rfl dX7_reader_33 ?_
      refine lv_if_le (tgt := 41) hx hb dX7_reader_36 (by decide) (fun c36 => ?_) (fun c36 => ?_)
      · replace h := az_pos c36 h
        refine lv_iload_n hx hb dX7_reader_41 rfl (lv_at hl 2 rfl) ?_
        by_cases c42_0 : x2 = (0 : Int32)
        · replace h := az_pos c42_0 h
          refine lv_tableIn (tgt := 72) (off := 30) hx hb dX7_reader_42 (by rw [c42_0]; decide) (by rw [c42_0]; decide) (by rw [c42_0]; rfl) (by decide) ?_
          refine lv_aload_n hx hb dX7_reader_72 rfl (lv_at hl 0 rfl) ?_
          refine lv_iload_n hx hb dX7_reader_73 rfl (lv_at hl 1 rfl) ?_
          refine lv_iconst (v := (0 : Int32)) hx hb dX7_reader_74 (by decide) ?_
          obtain ⟨o75, hc75, h⟩ := az_bnd h
          refine az_callVi (w2 := az_cM g ad (va_up V 2 u29)) (As := [.int x1, .int (0 : Int32)]) (rest := []) ⟨hx, hb, hml, hown, hts⟩ hl.1 (kX7_ofReader l g ad (va_up V 2 u29) x1 (0 : Int32) o75 hc75) (cwV 2 hts gX7_reader_X7_ofReader rfl rfl rfl (by decide +kernel) ⟨Nat.le_of_ble_eq_true rfl, Nat.le_of_ble_eq_true rfl⟩) rfl hK hP hD hS hA [0, 1, 2, 3] [] [0, 1, 2, 3] rfl rfl rfl rfl rfl (by decide) rfl rfl rfl 0 rfl rfl rfl (Nat.le_of_ble_eq_true rfl) dX7_reader_75 ⟨Nat.zero_le _, Nat.zero_le _⟩ rfl (fun H locs hP hD hS => ?_)
          have hP : va_P g.1 az_cl (az_cM g ad (va_up V 2 u29)) _ := hP
          have hD : va_D A (az_cM g ad (va_up V 2 u29)) := hD
          rw [← Option.some.inj h]
          exact az_iret hx hb hr hlocks hK hP hD hS dX7_reader_78
        · replace h := az_neg c42_0 h
          by_cases c42_1 : x2 = (1 : Int32)
          · replace h := az_pos c42_1 h
            refine lv_tableIn (tgt := 79) (off := 37) hx hb dX7_reader_42 (by rw [c42_1]; decide) (by rw [c42_1]; decide) (by rw [c42_1]; rfl) (by decide) ?_
            refine lv_aload_n hx hb dX7_reader_79 rfl (lv_at hl 0 rfl) ?_
            refine lv_iload_n hx hb dX7_reader_80 rfl (lv_at hl 1 rfl) ?_
            obtain ⟨o81, hc81, h⟩ := az_bnd h
            refine az_callVi (w2 := az_cM g ad (va_up V 2 u29)) (As := [.int x1]) (rest := []) ⟨hx, hb, hml, hown, hts⟩ hl.1 (kX7_isInside l g ad (va_up V 2 u29) x1 o81 hc81) (cwV 1 hts gX7_reader_X7_isInside rfl rfl rfl (by decide +kernel) ⟨Nat.le_of_ble_eq_true rfl, Nat.le_of_ble_eq_true rfl⟩) rfl hK hP hD hS hA [0, 1, 2, 3] [] [0, 1, 2, 3] rfl rfl rfl rfl rfl (by decide) rfl rfl rfl 0 rfl rfl rfl (Nat.le_of_ble_eq_true rfl) dX7_reader_81 ⟨Nat.zero_le _, Nat.zero_le _⟩ rfl (fun H locs hP hD hS => ?_)
            refine lv_if_eq (tgt := 96) hx hb dX7_reader_84 (by decide) (fun c84 => ?_) (fun c84 => ?_)
            · replace h := az_pos c84 h
              refine lv_iconst (v := (-1 : Int32)) hx hb dX7_reader_96 (by decide) ?_
              have hP : va_P g.1 az_cl (az_cM g ad (va_up V 2 u29)) _ := hP
              have hD : va_D A (az_cM g ad (va_up V 2 u29)) := hD
              rw [← Option.some.inj h]
              exact az_iret hx hb hr hlocks hK hP hD hS dX7_reader_97
            · replace h := az_neg c84 h
              refine lv_aload_n hx hb dX7_reader_87 rfl (lv_at hl 0 rfl) ?_
              refine lv_iload_n hx hb dX7_reader_88 rfl (lv_at hl 1 rfl) ?_
              refine lv_iconst (v := (1 : Int32)) hx hb dX7_reader_89 (by decide) ?_
              obtain ⟨o90, hc90, h⟩ := az_bnd h
              refine az_callVi (w2 := az_cM g ad (va_up V 2 u29)) (As := [.int x1, .int (1 : Int32)]) (rest := []) ⟨hx, hb, hml, hown, hts⟩ hl.1 (kX7_ofReader l g ad (va_up V 2 u29) x1 (1 : Int32) o90 hc90) (cwV 2 hts gX7_reader_X7_ofReader rfl rfl rfl (by decide +kernel) ⟨Nat.le_of_ble_eq_true rfl, Nat.le_of_ble_eq_true rfl⟩) rfl hK hP hD hS hA [0, 1, 2, 3] [] [0, 1, 2, 3] rfl rfl rfl rfl rfl (by decide) rfl rfl rfl 0 rfl rfl rfl (Nat.le_of_ble_eq_true rfl) dX7_reader_90 ⟨Nat.zero_le _, Nat.zero_le _⟩ rfl (fun H locs hP hD hS => ?_)
              refine lv_goto (tgt := 97) hx hb dX7_reader_93 (by decide) ?_
              have hP : va_P g.1 az_cl (az_cM g ad (va_up V 2 u29)) _ := hP
              have hD : va_D A (az_cM g ad (va_up V 2 u29)) := hD
              rw [← Option.some.inj h]
              exact az_iret hx hb hr hlocks hK hP hD hS dX7_reader_97
          · replace h := az_neg c42_1 h
            by_cases c42_2 : x2 = (2 : Int32)
            · replace h := az_pos c42_2 h
              refine lv_tableIn (tgt := 98) (off := 56) hx hb dX7_reader_42 (by rw [c42_2]; decide) (by rw [c42_2]; decide) (by rw [c42_2]; rfl) (by decide) ?_
              refine lv_aload_n hx hb dX7_reader_98 rfl (lv_at hl 0 rfl) ?_
              refine lv_iload_n hx hb dX7_reader_99 rfl (lv_at hl 1 rfl) ?_
              obtain ⟨o100, hc100, h⟩ := az_bnd h
              refine az_callVi (w2 := az_cM g ad (va_up V 2 u29)) (As := [.int x1]) (rest := []) ⟨hx, hb, hml, hown, hts⟩ hl.1 (kX7_heldBy l g ad (va_up V 2 u29) x1 o100 hc100) (cwV 1 hts gX7_reader_X7_heldBy rfl rfl rfl (by decide +kernel) ⟨Nat.le_of_ble_eq_true rfl, Nat.le_of_ble_eq_true rfl⟩) rfl hK hP hD hS hA [0, 1, 2, 3] [] [0, 1, 2, 3] rfl rfl rfl rfl rfl (by decide) rfl rfl rfl 0 rfl rfl rfl (Nat.le_of_ble_eq_true rfl) dX7_reader_100 ⟨Nat.zero_le _, Nat.zero_le _⟩ rfl (fun H locs hP hD hS => ?_)
              have hP : va_P g.1 az_cl (az_cM g ad (va_up V 2 u29)) _ := hP
              have hD : va_D A (az_cM g ad (va_up V 2 u29)) := hD
              rw [← Option.some.inj h]
              exact az_iret hx hb hr hlocks hK hP hD hS dX7_reader_103
            · replace h := az_neg c42_2 h
              by_cases c42_3 : x2 = (3 : Int32)
              · replace h := az_pos c42_3 h
                refine lv_tableIn (tgt := 104) (off := 62) hx hb dX7_reader_42 (by rw [c42_3]; decide) (by rw [c42_3]; decide) (by rw [c42_3]; rfl) (by decide) ?_
                refine lv_aload_n hx hb dX7_reader_104 rfl (lv_at hl 0 rfl) ?_
                refine lv_iload_n hx hb dX7_reader_105 rfl (lv_at hl 1 rfl) ?_
                obtain ⟨o106, hc106, h⟩ := az_bnd h
                refine az_callVi (w2 := az_cM g ad (va_up V 2 u29)) (As := [.int x1]) (rest := []) ⟨hx, hb, hml, hown, hts⟩ hl.1 (kX7_stallOf l g ad (va_up V 2 u29) x1 o106 hc106) (cwV 1 hts gX7_reader_X7_stallOf rfl rfl rfl (by decide +kernel) ⟨Nat.le_of_ble_eq_true rfl, Nat.le_of_ble_eq_true rfl⟩) rfl hK hP hD hS hA [0, 1, 2, 3] [] [0, 1, 2, 3] rfl rfl rfl rfl rfl (by decide) rfl rfl rfl 0 rfl rfl rfl (Nat.le_of_ble_eq_true rfl) dX7_reader_106 ⟨Nat.zero_le _, Nat.zero_le _⟩ rfl (fun H locs hP hD hS => ?_)
                have hP : va_P g.1 az_cl (az_cM g ad (va_up V 2 u29)) _ := hP
                have hD : va_D A (az_cM g ad (va_up V 2 u29)) := hD
                rw [← Option.some.inj h]
                exact az_iret hx hb hr hlocks hK hP hD hS dX7_reader_109
              · replace h := az_neg c42_3 h
                refine lv_tableOut (tgt := 110) hx hb dX7_reader_42 (by have n0 := lv_neT (a := 0) c42_0 (by decide); have n1 := lv_neT (a := 1) c42_1 (by decide); have n2 := lv_neT (a := 2) c42_2 (by decide); have n3 := lv_neT (a := 3) c42_3 (by decide); omega) (by decide) ?_
                refine lv_aload_n hx hb dX7_reader_110 rfl (lv_at hl 0 rfl) ?_
                refine lv_iload_n hx hb dX7_reader_111 rfl (lv_at hl 1 rfl) ?_
                obtain ⟨o112, hc112, h⟩ := az_bnd h
                refine az_callVi (w2 := az_cM g ad (va_up V 2 u29)) (As := [.int x1]) (rest := []) ⟨hx, hb, hml, hown, hts⟩ hl.1 (kX7_waitingHeldBy l g ad (va_up V 2 u29) x1 o112 hc112) (cwV 1 hts gX7_reader_X7_waitingHeldBy rfl rfl rfl (by decide +kernel) ⟨Nat.le_of_ble_eq_true rfl, Nat.le_of_ble_eq_true rfl⟩) rfl hK hP hD hS hA [0, 1, 2, 3] [] [0, 1, 2, 3] rfl rfl rfl rfl rfl (by decide) rfl rfl rfl 0 rfl rfl rfl (Nat.le_of_ble_eq_true rfl) dX7_reader_112 ⟨Nat.zero_le _, Nat.zero_le _⟩ rfl (fun H locs hP hD hS => ?_)
                have hP : va_P g.1 az_cl (az_cM g ad (va_up V 2 u29)) _ := hP
                have hD : va_D A (az_cM g ad (va_up V 2 u29)) := hD
                rw [← Option.some.inj h]
                exact az_iret hx hb hr hlocks hK hP hD hS dX7_reader_115
      · replace h := az_neg c36 h
        refine lv_iconst (v := (0 : Int32)) hx hb dX7_reader_39 (by decide) ?_
        have hP : va_P g.1 az_cl (az_cM g ad (va_up V 2 u29)) _ := hP
        have hD : va_D A (az_cM g ad (va_up V 2 u29)) := hD
        rw [← Option.some.inj h]
        exact az_iret hx hb hr hlocks hK hP hD hS dX7_reader_40
    · replace h := az_pos c21 h
      refine lv_iconst (v := (2 : Int32)) hx hb dX7_reader_24 (by decide) ?_
      refine lv_goto (tgt := 29) hx hb dX7_reader_25 (by decide) ?_
      refine va_put (D := g.1) (ci := 7) (v := .int (2 : Int32)) (ty := .int) (C := RX7) (T := TX7) (N := 5) hx hb hts inX7_reader_RX7 tyX7 tyX7_ok nmX7 hown hK hP hD hS 0 rfl rfl 3 (Nat.le_of_ble_eq_true rfl) (hts _ (List.mem_of_getElem? (i := 2) rfl)) (fun _ h9 => h9) rfl (by decide +kernel) rfl rfl (Nat.le_of_ble_eq_true rfl) dX7_reader_29 (fun H locs hP hD hS => ?_)
      obtain ⟨u29, e29⟩ : ∃ w : Nat → Int32, w = upd (V 2) 1 (2 : Int32) := ⟨_, rfl⟩
      have hP : va_P g.1 az_cl (az_cM g ad (va_up V 2 u29)) H := by rw [e29]; exact hP
      have hD : va_D A (az_cM g ad (va_up V 2 u29)) := by rw [e29]; exact hD
      replace h := az_let e29 h
      refine lv_aload_n hx hb dX7_reader_32 rfl (lv_at hl 0 rfl) ?_
      refine va_get (D := g.1) (ci := 7) (v := .int (u29 1)) (C := RX7) (T := TX7) (N := 5) hx hb hts inX7_reader_RX7 hown hK hP 0 rfl rfl 3 (Nat.le_of_ble_eq_true rfl) (hts _ (List.mem_of_getElem? (i := 2) rfl)) (fun _ h9 => h9) rfl dX7_reader_33 ?_
      refine lv_if_le (tgt := 41) hx hb dX7_reader_36 (by decide) (fun c36 => ?_) (fun c36 => ?_)
      · replace h := az_pos c36 h
        refine lv_iload_n hx hb dX7_reader_41 rfl (lv_at hl 2 rfl) ?_
        by_cases c42_0 : x2 = (0 : Int32)
        · replace h := az_pos c42_0 h
          refine lv_tableIn (tgt := 72) (off := 30) hx hb dX7_reader_42 (by rw [c42_0]; decide) (by rw [c42_0]; decide) (by rw [c42_0]; rfl) (by decide) ?_
          refine lv_aload_n hx hb dX7_reader_72 rfl (lv_at hl 0 rfl) ?_
          refine lv_iload_n hx hb dX7_reader_73 rfl (lv_at hl 1 rfl) ?_
          refine lv_iconst (v := (0 : Int32)) hx hb dX7_reader_74 (by decide) ?_
          obtain ⟨o75, hc75, h⟩ := az_bnd h
          refine az_callVi (w2 := az_cM g ad (va_up V 2 u29)) (As := [.int x1, .int (0 : Int32)]) (rest := []) ⟨hx, hb, hml, hown, hts⟩ hl.1 (kX7_ofReader l g ad (va_up V 2 u29) x1 (0 : Int32) o75 hc75) (cwV 2 hts gX7_reader_X7_ofReader rfl rfl rfl (by decide +kernel) ⟨Nat.le_of_ble_eq_true rfl, Nat.le_of_ble_eq_true rfl⟩) rfl hK hP hD hS hA [0, 1, 2, 3] [] [0, 1, 2, 3] rfl rfl rfl rfl rfl (by decide) rfl rfl rfl 0 rfl rfl rfl (Nat.le_of_ble_eq_true rfl) dX7_reader_75 ⟨Nat.zero_le _, Nat.zero_le _⟩ rfl (fun H locs hP hD hS => ?_)
          have hP : va_P g.1 az_cl (az_cM g ad (va_up V 2 u29)) _ := hP
          have hD : va_D A (az_cM g ad (va_up V 2 u29)) := hD
          rw [← Option.some.inj h]
          exact az_iret hx hb hr hlocks hK hP hD hS dX7_reader_78
        · replace h := az_neg c42_0 h
          by_cases c42_1 : x2 = (1 : Int32)
          · replace h := az_pos c42_1 h
            refine lv_tableIn (tgt := 79) (off := 37) hx hb dX7_reader_42 (by rw [c42_1]; decide) (by rw [c42_1]; decide) (by rw [c42_1]; rfl) (by decide) ?_
            refine lv_aload_n hx hb dX7_reader_79 rfl (lv_at hl 0 rfl) ?_
            refine lv_iload_n hx hb dX7_reader_80 rfl (lv_at hl 1 rfl) ?_
            obtain ⟨o81, hc81, h⟩ := az_bnd h
            refine az_callVi (w2 := az_cM g ad (va_up V 2 u29)) (As := [.int x1]) (rest := []) ⟨hx, hb, hml, hown, hts⟩ hl.1 (kX7_isInside l g ad (va_up V 2 u29) x1 o81 hc81) (cwV 1 hts gX7_reader_X7_isInside rfl rfl rfl (by decide +kernel) ⟨Nat.le_of_ble_eq_true rfl, Nat.le_of_ble_eq_true rfl⟩) rfl hK hP hD hS hA [0, 1, 2, 3] [] [0, 1, 2, 3] rfl rfl rfl rfl rfl (by decide) rfl rfl rfl 0 rfl rfl rfl (Nat.le_of_ble_eq_true rfl) dX7_reader_81 ⟨Nat.zero_le _, Nat.zero_le _⟩ rfl (fun H locs hP hD hS => ?_)
            refine lv_if_eq (tgt := 96) hx hb dX7_reader_84 (by decide) (fun c84 => ?_) (fun c84 => ?_)
            · replace h := az_pos c84 h
              refine lv_iconst (v := (-1 : Int32)) hx hb dX7_reader_96 (by decide) ?_
              have hP : va_P g.1 az_cl (az_cM g ad (va_up V 2 u29)) _ := hP
              have hD : va_D A (az_cM g ad (va_up V 2 u29)) := hD
              rw [← Option.some.inj h]
              exact az_iret hx hb hr hlocks hK hP hD hS dX7_reader_97
            · replace h := az_neg c84 h
              refine lv_aload_n hx hb dX7_reader_87 rfl (lv_at hl 0 rfl) ?_
              refine lv_iload_n hx hb dX7_reader_88 rfl (lv_at hl 1 rfl) ?_
              refine lv_iconst (v := (1 : Int32)) hx hb dX7_reader_89 (by decide) ?_
              obtain ⟨o90, hc90, h⟩ := az_bnd h
              refine az_callVi (w2 := az_cM g ad (va_up V 2 u29)) (As := [.int x1, .int (1 : Int32)]) (rest := []) ⟨hx, hb, hml, hown, hts⟩ hl.1 (kX7_ofReader l g ad (va_up V 2 u29) x1 (1 : Int32) o90 hc90) (cwV 2 hts gX7_reader_X7_ofReader rfl rfl rfl (by decide +kernel) ⟨Nat.le_of_ble_eq_true rfl, Nat.le_of_ble_eq_true rfl⟩) rfl hK hP hD hS hA [0, 1, 2, 3] [] [0, 1, 2, 3] rfl rfl rfl rfl rfl (by decide) rfl rfl rfl 0 rfl rfl rfl (Nat.le_of_ble_eq_true rfl) dX7_reader_90 ⟨Nat.zero_le _, Nat.zero_le _⟩ rfl (fun H locs hP hD hS => ?_)
              refine lv_goto (tgt := 97) hx hb dX7_reader_93 (by decide) ?_
              have hP : va_P g.1 az_cl (az_cM g ad (va_up V 2 u29)) _ := hP
              have hD : va_D A (az_cM g ad (va_up V 2 u29)) := hD
              rw [← Option.some.inj h]
              exact az_iret hx hb hr hlocks hK hP hD hS dX7_reader_97
          · replace h := az_neg c42_1 h
            by_cases c42_2 : x2 = (2 : Int32)
            · replace h := az_pos c42_2 h
              refine lv_tableIn (tgt := 98) (off := 56) hx hb dX7_reader_42 (by rw [c42_2]; decide) (by rw [c42_2]; decide) (by rw [c42_2]; rfl) (by decide) ?_
              refine lv_aload_n hx hb dX7_reader_98 rfl (lv_at hl 0 rfl) ?_
              refine lv_iload_n hx hb dX7_reader_99 rfl (lv_at hl 1 rfl) ?_
              obtain ⟨o100, hc100, h⟩ := az_bnd h
              refine az_callVi (w2 := az_cM g ad (va_up V 2 u29)) (As := [.int x1]) (rest := []) ⟨hx, hb, hml, hown, hts⟩ hl.1 (kX7_heldBy l g ad (va_up V 2 u29) x1 o100 hc100) (cwV 1 hts gX7_reader_X7_heldBy rfl rfl rfl (by decide +kernel) ⟨Nat.le_of_ble_eq_true rfl, Nat.le_of_ble_eq_true rfl⟩) rfl hK hP hD hS hA [0, 1, 2, 3] [] [0, 1, 2, 3] rfl rfl rfl rfl rfl (by decide) rfl rfl rfl 0 rfl rfl rfl (Nat.le_of_ble_eq_true rfl) dX7_reader_100 ⟨Nat.zero_le _, Nat.zero_le _⟩ rfl (fun H locs hP hD hS => ?_)
              have hP : va_P g.1 az_cl (az_cM g ad (va_up V 2 u29)) _ := hP
              have hD : va_D A (az_cM g ad (va_up V 2 u29)) := hD
              rw [← Option.some.inj h]
              exact az_iret hx hb hr hlocks hK hP hD hS dX7_reader_103
            · replace h := az_neg c42_2 h
              by_cases c42_3 : x2 = (3 : Int32)
              · replace h := az_pos c42_3 h
                refine lv_tableIn (tgt := 104) (off := 62) hx hb dX7_reader_42 (by rw [c42_3]; decide) (by rw [c42_3]; decide) (by rw [c42_3]; rfl) (by decide) ?_
                refine lv_aload_n hx hb dX7_reader_104 rfl (lv_at hl 0 rfl) ?_
                refine lv_iload_n hx hb dX7_reader_105 rfl (lv_at hl 1 rfl) ?_
                obtain ⟨o106, hc106, h⟩ := az_bnd h
                refine az_callVi (w2 := az_cM g ad (va_up V 2 u29)) (As := [.int x1]) (rest := []) ⟨hx, hb, hml, hown, hts⟩ hl.1 (kX7_stallOf l g ad (va_up V 2 u29) x1 o106 hc106) (cwV 1 hts gX7_reader_X7_stallOf rfl rfl rfl (by decide +kernel) ⟨Nat.le_of_ble_eq_true rfl, Nat.le_of_ble_eq_true rfl⟩) rfl hK hP hD hS hA [0, 1, 2, 3] [] [0, 1, 2, 3] rfl rfl rfl rfl rfl (by decide) rfl rfl rfl 0 rfl rfl rfl (Nat.le_of_ble_eq_true rfl) dX7_reader_106 ⟨Nat.zero_le _, Nat.zero_le _⟩ rfl (fun H locs hP hD hS => ?_)
                have hP : va_P g.1 az_cl (az_cM g ad (va_up V 2 u29)) _ := hP
                have hD : va_D A (az_cM g ad (va_up V 2 u29)) := hD
                rw [← Option.some.inj h]
                exact az_iret hx hb hr hlocks hK hP hD hS dX7_reader_109
              · replace h := az_neg c42_3 h
                refine lv_tableOut (tgt := 110) hx hb dX7_reader_42 (by have n0 := lv_neT (a := 0) c42_0 (by decide); have n1 := lv_neT (a := 1) c42_1 (by decide); have n2 := lv_neT (a := 2) c42_2 (by decide); have n3 := lv_neT (a := 3) c42_3 (by decide); omega) (by decide) ?_
                refine lv_aload_n hx hb dX7_reader_110 rfl (lv_at hl 0 rfl) ?_
                refine lv_iload_n hx hb dX7_reader_111 rfl (lv_at hl 1 rfl) ?_
                obtain ⟨o112, hc112, h⟩ := az_bnd h
                refine az_callVi (w2 := az_cM g ad (va_up V 2 u29)) (As := [.int x1]) (rest := []) ⟨hx, hb, hml, hown, hts⟩ hl.1 (kX7_waitingHeldBy l g ad (va_up V 2 u29) x1 o112 hc112) (cwV 1 hts gX7_reader_X7_waitingHeldBy rfl rfl rfl (by decide +kernel) ⟨Nat.le_of_ble_eq_true rfl, Nat.le_of_ble_eq_true rfl⟩) rfl hK hP hD hS hA [0, 1, 2, 3] [] [0, 1, 2, 3] rfl rfl rfl rfl rfl (by decide) rfl rfl rfl 0 rfl rfl rfl (Nat.le_of_ble_eq_true rfl) dX7_reader_112 ⟨Nat.zero_le _, Nat.zero_le _⟩ rfl (fun H locs hP hD hS => ?_)
                have hP : va_P g.1 az_cl (az_cM g ad (va_up V 2 u29)) _ := hP
                have hD : va_D A (az_cM g ad (va_up V 2 u29)) := hD
                rw [← Option.some.inj h]
                exact az_iret hx hb hr hlocks hK hP hD hS dX7_reader_115
      · replace h := az_neg c36 h
        refine lv_iconst (v := (0 : Int32)) hx hb dX7_reader_39 (by decide) ?_
        have hP : va_P g.1 az_cl (az_cM g ad (va_up V 2 u29)) _ := hP
        have hD : va_D A (az_cM g ad (va_up V 2 u29)) := hD
        rw [← Option.some.inj h]
        exact az_iret hx hb hr hlocks hK hP hD hS dX7_reader_40
  · replace h := az_pos c5 h
    refine lv_iconst (v := (1 : Int32)) hx hb dX7_reader_8 (by decide) ?_
    refine lv_goto (tgt := 29) hx hb dX7_reader_9 (by decide) ?_
    refine va_put (D := g.1) (ci := 7) (v := .int (1 : Int32)) (ty := .int) (C := RX7) (T := TX7) (N := 5) hx hb hts inX7_reader_RX7 tyX7 tyX7_ok nmX7 hown hK hP hD hS 0 rfl rfl 3 (Nat.le_of_ble_eq_true rfl) (hts _ (List.mem_of_getElem? (i := 2) rfl)) (fun _ h9 => h9) rfl (by decide +kernel) rfl rfl (Nat.le_of_ble_eq_true rfl) dX7_reader_29 (fun H locs hP hD hS => ?_)
    obtain ⟨u29, e29⟩ : ∃ w : Nat → Int32, w = upd (V 2) 1 (1 : Int32) := ⟨_, rfl⟩
    have hP : va_P g.1 az_cl (az_cM g ad (va_up V 2 u29)) H := by rw [e29]; exact hP
    have hD : va_D A (az_cM g ad (va_up V 2 u29)) := by rw [e29]; exact hD
    replace h := az_let e29 h
    refine lv_aload_n hx hb dX7_reader_32 rfl (lv_at hl 0 rfl) ?_
    refine va_get (D := g.1) (ci := 7) (v := .int (u29 1)) (C := RX7) (T := TX7) (N := 5) hx hb hts inX7_reader_RX7 hown hK hP 0 rfl rfl 3 (Nat.le_of_ble_eq_true rfl) (hts _ (List.mem_of_getElem? (i := 2) rfl)) (fun _ h9 => h9) rfl dX7_reader_33 ?_
    refine lv_if_le (tgt := 41) hx hb dX7_reader_36 (by decide) (fun c36 => ?_) (fun c36 => ?_)
    · replace h := az_pos c36 h
      refine lv_iload_n hx hb dX7_reader_41 rfl (lv_at hl 2 rfl) ?_
      by_cases c42_0 : x2 = (0 : Int32)
      · replace h := az_pos c42_0 h
        refine lv_tableIn (tgt := 72) (off := 30) hx hb dX7_reader_42 (by rw [c42_0]; decide) (by rw [c42_0]; decide) (by rw [c42_0]; rfl) (by decide) ?_
        refine lv_aload_n hx hb dX7_reader_72 rfl (lv_at hl 0 rfl) ?_
        refine lv_iload_n hx hb dX7_reader_73 rfl (lv_at hl 1 rfl) ?_
        refine lv_iconst (v := (0 : Int32)) hx hb dX7_reader_74 (by decide) ?_
        obtain ⟨o75, hc75, h⟩ := az_bnd h
        refine az_callVi (w2 := az_cM g ad (va_up V 2 u29)) (As := [.int x1, .int (0 : Int32)]) (rest := []) ⟨hx, hb, hml, hown, hts⟩ hl.1 (kX7_ofReader l g ad (va_up V 2 u29) x1 (0 : Int32) o75 hc75) (cwV 2 hts gX7_reader_X7_ofReader rfl rfl rfl (by decide +kernel) ⟨Nat.le_of_ble_eq_true rfl, Nat.le_of_ble_eq_true rfl⟩) rfl hK hP hD hS hA [0, 1, 2, 3] [] [0, 1, 2, 3] rfl rfl rfl rfl rfl (by decide) rfl rfl rfl 0 rfl rfl rfl (Nat.le_of_ble_eq_true rfl) dX7_reader_75 ⟨Nat.zero_le _, Nat.zero_le _⟩ rfl (fun H locs hP hD hS => ?_)
        have hP : va_P g.1 az_cl (az_cM g ad (va_up V 2 u29)) _ := hP
        have hD : va_D A (az_cM g ad (va_up V 2 u29)) := hD
        rw [← Option.some.inj h]
        exact az_iret hx hb hr hlocks hK hP hD hS dX7_reader_78
      · replace h := az_neg c42_0 h
        by_cases c42_1 : x2 = (1 : Int32)
        · replace h := az_pos c42_1 h
          refine lv_tableIn (tgt := 79) (off := 37) hx hb dX7_reader_42 (by rw [c42_1]; decide) (by rw [c42_1]; decide) (by rw [c42_1]; rfl) (by decide) ?_
          refine lv_aload_n hx hb dX7_reader_79 rfl (lv_at hl 0 rfl) ?_
          refine lv_iload_n hx hb dX7_reader_80 rfl (lv_at hl 1 rfl) ?_
          obtain ⟨o81, hc81, h⟩ := az_bnd h
          refine az_callVi (w2 := az_cM g ad (va_up V 2 u29)) (As := [.int x1]) (rest := []) ⟨hx, hb, hml, hown, hts⟩ hl.1 (kX7_isInside l g ad (va_up V 2 u29) x1 o81 hc81) (cwV 1 hts gX7_reader_X7_isInside rfl rfl rfl (by decide +kernel) ⟨Nat.le_of_ble_eq_true rfl, Nat.le_of_ble_eq_true rfl⟩) rfl hK hP hD hS hA [0, 1, 2, 3] [] [0, 1, 2, 3] rfl rfl rfl rfl rfl (by decide) rfl rfl rfl 0 rfl rfl rfl (Nat.le_of_ble_eq_true rfl) dX7_reader_81 ⟨Nat.zero_le _, Nat.zero_le _⟩ rfl (fun H locs hP hD hS => ?_)
          refine lv_if_eq (tgt := 96) hx hb dX7_reader_84 (by decide) (fun c84 => ?_) (fun c84 => ?_)
          · replace h := az_pos c84 h
            refine lv_iconst (v := (-1 : Int32)) hx hb dX7_reader_96 (by decide) ?_
            have hP : va_P g.1 az_cl (az_cM g ad (va_up V 2 u29)) _ := hP
            have hD : va_D A (az_cM g ad (va_up V 2 u29)) := hD
            rw [← Option.some.inj h]
            exact az_iret hx hb hr hlocks hK hP hD hS dX7_reader_97
          · replace h := az_neg c84 h
            refine lv_aload_n hx hb dX7_reader_87 rfl (lv_at hl 0 rfl) ?_
            refine lv_iload_n hx hb dX7_reader_88 rfl (lv_at hl 1 rfl) ?_
            refine lv_iconst (v := (1 : Int32)) hx hb dX7_reader_89 (by decide) ?_
            obtain ⟨o90, hc90, h⟩ := az_bnd h
            refine az_callVi (w2 := az_cM g ad (va_up V 2 u29)) (As := [.int x1, .int (1 : Int32)]) (rest := []) ⟨hx, hb, hml, hown, hts⟩ hl.1 (kX7_ofReader l g ad (va_up V 2 u29) x1 (1 : Int32) o90 hc90) (cwV 2 hts gX7_reader_X7_ofReader rfl rfl rfl (by decide +kernel) ⟨Nat.le_of_ble_eq_true rfl, Nat.le_of_ble_eq_true rfl⟩) rfl hK hP hD hS hA [0, 1, 2, 3] [] [0, 1, 2, 3] rfl rfl rfl rfl rfl (by decide) rfl rfl rfl 0 rfl rfl rfl (Nat.le_of_ble_eq_true rfl) dX7_reader_90 ⟨Nat.zero_le _, Nat.zero_le _⟩ rfl (fun H locs hP hD hS => ?_)
            refine lv_goto (tgt := 97) hx hb dX7_reader_93 (by decide) ?_
            have hP : va_P g.1 az_cl (az_cM g ad (va_up V 2 u29)) _ := hP
            have hD : va_D A (az_cM g ad (va_up V 2 u29)) := hD
            rw [← Option.some.inj h]
            exact az_iret hx hb hr hlocks hK hP hD hS dX7_reader_97
        · replace h := az_neg c42_1 h
          by_cases c42_2 : x2 = (2 : Int32)
          · replace h := az_pos c42_2 h
            refine lv_tableIn (tgt := 98) (off := 56) hx hb dX7_reader_42 (by rw [c42_2]; decide) (by rw [c42_2]; decide) (by rw [c42_2]; rfl) (by decide) ?_
            refine lv_aload_n hx hb dX7_reader_98 rfl (lv_at hl 0 rfl) ?_
            refine lv_iload_n hx hb dX7_reader_99 rfl (lv_at hl 1 rfl) ?_
            obtain ⟨o100, hc100, h⟩ := az_bnd h
            refine az_callVi (w2 := az_cM g ad (va_up V 2 u29)) (As := [.int x1]) (rest := []) ⟨hx, hb, hml, hown, hts⟩ hl.1 (kX7_heldBy l g ad (va_up V 2 u29) x1 o100 hc100) (cwV 1 hts gX7_reader_X7_heldBy rfl rfl rfl (by decide +kernel) ⟨Nat.le_of_ble_eq_true rfl, Nat.le_of_ble_eq_true rfl⟩) rfl hK hP hD hS hA [0, 1, 2, 3] [] [0, 1, 2, 3] rfl rfl rfl rfl rfl (by decide) rfl rfl rfl 0 rfl rfl rfl (Nat.le_of_ble_eq_true rfl) dX7_reader_100 ⟨Nat.zero_le _, Nat.zero_le _⟩ rfl (fun H locs hP hD hS => ?_)
            have hP : va_P g.1 az_cl (az_cM g ad (va_up V 2 u29)) _ := hP
            have hD : va_D A (az_cM g ad (va_up V 2 u29)) := hD
            rw [← Option.some.inj h]
            exact az_iret hx hb hr hlocks hK hP hD hS dX7_reader_103
          · replace h := az_neg c42_2 h
            by_cases c42_3 : x2 = (3 : Int32)
            · replace h := az_pos c42_3 h
              refine lv_tableIn (tgt := 104) (off := 62) hx hb dX7_reader_42 (by rw [c42_3]; decide) (by rw [c42_3]; decide) (by rw [c42_3]; rfl) (by decide) ?_
              refine lv_aload_n hx hb dX7_reader_104 rfl (lv_at hl 0 rfl) ?_
              refine lv_iload_n hx hb dX7_reader_105 rfl (lv_at hl 1 rfl) ?_
              obtain ⟨o106, hc106, h⟩ := az_bnd h
              refine az_callVi (w2 := az_cM g ad (va_up V 2 u29)) (As := [.int x1]) (rest := []) ⟨hx, hb, hml, hown, hts⟩ hl.1 (kX7_stallOf l g ad (va_up V 2 u29) x1 o106 hc106) (cwV 1 hts gX7_reader_X7_stallOf rfl rfl rfl (by decide +kernel) ⟨Nat.le_of_ble_eq_true rfl, Nat.le_of_ble_eq_true rfl⟩) rfl hK hP hD hS hA [0, 1, 2, 3] [] [0, 1, 2, 3] rfl rfl rfl rfl rfl (by decide) rfl rfl rfl 0 rfl rfl rfl (Nat.le_of_ble_eq_true rfl) dX7_reader_106 ⟨Nat.zero_le _, Nat.zero_le _⟩ rfl (fun H locs hP hD hS => ?_)
              have hP : va_P g.1 az_cl (az_cM g ad (va_up V 2 u29)) _ := hP
              have hD : va_D A (az_cM g ad (va_up V 2 u29)) := hD
              rw [← Option.some.inj h]
              exact az_iret hx hb hr hlocks hK hP hD hS dX7_reader_109
            · replace h := az_neg c42_3 h
              refine lv_tableOut (tgt := 110) hx hb dX7_reader_42 (by have n0 := lv_neT (a := 0) c42_0 (by decide); have n1 := lv_neT (a := 1) c42_1 (by decide); have n2 := lv_neT (a := 2) c42_2 (by decide); have n3 := lv_neT (a := 3) c42_3 (by decide); omega) (by decide) ?_
              refine lv_aload_n hx hb dX7_reader_110 rfl (lv_at hl 0 rfl) ?_
              refine lv_iload_n hx hb dX7_reader_111 rfl (lv_at hl 1 rfl) ?_
              obtain ⟨o112, hc112, h⟩ := az_bnd h
              refine az_callVi (w2 := az_cM g ad (va_up V 2 u29)) (As := [.int x1]) (rest := []) ⟨hx, hb, hml, hown, hts⟩ hl.1 (kX7_waitingHeldBy l g ad (va_up V 2 u29) x1 o112 hc112) (cwV 1 hts gX7_reader_X7_waitingHeldBy rfl rfl rfl (by decide +kernel) ⟨Nat.le_of_ble_eq_true rfl, Nat.le_of_ble_eq_true rfl⟩) rfl hK hP hD hS hA [0, 1, 2, 3] [] [0, 1, 2, 3] rfl rfl rfl rfl rfl (by decide) rfl rfl rfl 0 rfl rfl rfl (Nat.le_of_ble_eq_true rfl) dX7_reader_112 ⟨Nat.zero_le _, Nat.zero_le _⟩ rfl (fun H locs hP hD hS => ?_)
              have hP : va_P g.1 az_cl (az_cM g ad (va_up V 2 u29)) _ := hP
              have hD : va_D A (az_cM g ad (va_up V 2 u29)) := hD
              rw [← Option.some.inj h]
              exact az_iret hx hb hr hlocks hK hP hD hS dX7_reader_115
    · replace h := az_neg c36 h
      refine lv_iconst (v := (0 : Int32)) hx hb dX7_reader_39 (by decide) ?_
      have hP : va_P g.1 az_cl (az_cM g ad (va_up V 2 u29)) _ := hP
      have hD : va_D A (az_cM g ad (va_up V 2 u29)) := hD
      rw [← Option.some.inj h]
      exact az_iret hx hb hr hlocks hK hP hD hS dX7_reader_40

def FX7_blocking_L4 : Nat → az_St → Int32 → Int32 → Option (Int32)
  | 0, _, _, _ => none
  | n + 1, V, y1, y2 => if (6 : Int32) ≤ y2 then (some (y1)) else ((FX7_isStalled V y2).bind (fun o13 => if o13 = (0 : Int32) then (FX7_blocking_L4 n V (y1 ||| (0 : Int32)) (y2 + (1 : Int32))) else (FX7_blocking_L4 n V (y1 ||| ((1 : Int32) <<< (y2 &&& 31))) (y2 + (1 : Int32)))))
theorem FX7_blocking_L4_s (n : Nat) (V : az_St) (y1 : Int32) (y2 : Int32) : FX7_blocking_L4 (n + 1) V y1 y2 = (if (6 : Int32) ≤ y2 then (some (y1)) else ((FX7_isStalled V y2).bind (fun o13 => if o13 = (0 : Int32) then (FX7_blocking_L4 n V (y1 ||| (0 : Int32)) (y2 + (1 : Int32))) else (FX7_blocking_L4 n V (y1 ||| ((1 : Int32) <<< (y2 &&& 31))) (y2 + (1 : Int32)))))) := rfl
def FX7_blocking (V : az_St) : Option (Int32) := FX7_blocking_L4 az_fuel V (0 : Int32) (0 : Int32)
set_option maxHeartbeats 4000000 in
set_option maxRecDepth 100000 in
theorem kX7_blocking (l : Launch) (g : az_G) (ad : Nat → Nat) (V : az_St) (o : Int32) (h : FX7_blocking V = some o) : az_I l yX7_blocking wsX7_blocking ({ frames := 3, cells := 0, slots := 0, locals := 64 } : Room) [.ref (ad 0)] g (az_cM g ad V) o (az_cM g ad V) := by
  refine az_body (cc := cX7_blocking) (maxL := 3) (ret := (some .int)) (Qc := fun A => az_QI g (az_cM g ad V) o A) (by decide +kernel) rfl (Nat.le_of_ble_eq_true rfl) ?_
  intro p e s m args below meth c A hx hb hr hts hown hml hlocks hA hK hP hD hS ls hl
  have hl : lv_has ls 3 [(0, .ref (ad 0))] := hl
  unfold FX7_blocking at h
  have hL4 : ∀ (n : Nat) (y1 : Int32) (y2 : Int32) (H : Heap) (locs : List Loc) (ls : Array Slot), FX7_blocking_L4 n V y1 y2 = some o → va_P g.1 az_cl (az_cM g ad V) H → va_D A (az_cM g ad V) → va_S A s.heap H locs → lv_has ls 3 [(0, .ref (ad 0)), (1, .int y1), (2, .int y2)] → W p l e ({ frames := 3, cells := 0, slots := 0, locals := 64 } : Room) s m args below meth c H locs 0 0 (MQ below (az_QI g (az_cM g ad V) o A) args s 0 0 A) (F0 m 4 ls []) := by
    intro n
    induction n with
    | zero => intro y1 y2 H locs ls h; exact az_non h
    | succ n ih =>
      intro y1 y2 H locs ls h hP hD hS hl
      rw [FX7_blocking_L4_s] at h
      refine lv_iload_n hx hb dX7_blocking_4 rfl (lv_at hl 2 rfl) ?_
      refine lv_bipush (v := (6 : Int32)) hx hb dX7_blocking_5 (by decide) ?_
      refine lv_icmp_ge (tgt := 34) hx hb dX7_blocking_7 (by decide) (fun c7 => ?_) (fun c7 => ?_)
      · replace h := az_pos c7 h
        refine lv_iload_n hx hb dX7_blocking_34 rfl (lv_at hl 1 rfl) ?_
        have hP : va_P g.1 az_cl (az_cM g ad V) _ := hP
        have hD : va_D A (az_cM g ad V) := hD
        rw [← Option.some.inj h]
        exact az_iret hx hb hr hlocks hK hP hD hS dX7_blocking_35
      · replace h := az_neg c7 h
        refine lv_iload_n hx hb dX7_blocking_10 rfl (lv_at hl 1 rfl) ?_
        refine lv_aload_n hx hb dX7_blocking_11 rfl (lv_at hl 0 rfl) ?_
        refine lv_iload_n hx hb dX7_blocking_12 rfl (lv_at hl 2 rfl) ?_
        obtain ⟨o13, hc13, h⟩ := az_bnd h
        refine az_callVi (w2 := az_cM g ad V) (As := [.int y2]) (rest := [.int y1]) ⟨hx, hb, hml, hown, hts⟩ hl.1 (kX7_isStalled l g ad V y2 o13 hc13) (cwV 1 hts gX7_blocking_X7_isStalled rfl rfl rfl (by decide +kernel) ⟨Nat.le_of_ble_eq_true rfl, Nat.le_of_ble_eq_true rfl⟩) rfl hK hP hD hS hA [0, 1, 2, 3] [] [0, 1, 2, 3] rfl rfl rfl rfl rfl (by decide) rfl rfl rfl 0 rfl rfl rfl (Nat.le_of_ble_eq_true rfl) dX7_blocking_13 ⟨Nat.zero_le _, Nat.zero_le _⟩ rfl (fun H locs hP hD hS => ?_)
        refine lv_if_eq (tgt := 25) hx hb dX7_blocking_16 (by decide) (fun c16 => ?_) (fun c16 => ?_)
        · replace h := az_pos c16 h
          refine lv_iconst (v := (0 : Int32)) hx hb dX7_blocking_25 (by decide) ?_
          refine lv_ior hx hb dX7_blocking_26 ?_
          refine lv_istore_n (lv' := [(1, .int (y1 ||| (0 : Int32))), (0, .ref (ad 0)), (2, .int y2)]) hx hb dX7_blocking_27 rfl hl (by decide) rfl (fun ls hl => ?_)
          refine lv_iinc (v := y2 + (1 : Int32)) (lv' := [(2, .int (y2 + (1 : Int32))), (1, .int (y1 ||| (0 : Int32))), (0, .ref (ad 0))]) hx hb dX7_blocking_28 hl (k := 2) rfl (rfl) (by decide) rfl (fun ls hl => ?_)
          refine lv_goto (tgt := 4) hx hb dX7_blocking_31 (by decide) ?_
          have hP : va_P g.1 az_cl (az_cM g ad V) _ := hP
          have hD : va_D A (az_cM g ad V) := hD
          exact ih (y1 ||| (0 : Int32)) (y2 + (1 : Int32)) _ _ ls h hP hD hS (lv_sub hl [2, 1, 0] rfl)
        · replace h := az_neg c16 h
          refine lv_iconst (v := (1 : Int32)) hx hb dX7_blocking_19 (by decide) ?_
          refine lv_iload_n hx hb dX7_blocking_20 rfl (lv_at hl 2 rfl) ?_
          refine lv_ishl hx hb dX7_blocking_21 ?_
          refine lv_goto (tgt := 26) hx hb dX7_blocking_22 (by decide) ?_
          refine lv_ior hx hb dX7_blocking_26 ?_
          refine lv_istore_n (lv' := [(1, .int (y1 ||| ((1 : Int32) <<< (y2 &&& 31)))), (0, .ref (ad 0)), (2, .int y2)]) hx hb dX7_blocking_27 rfl hl (by decide) rfl (fun ls hl => ?_)
          refine lv_iinc (v := y2 + (1 : Int32)) (lv' := [(2, .int (y2 + (1 : Int32))), (1, .int (y1 ||| ((1 : Int32) <<< (y2 &&& 31)))), (0, .ref (ad 0))]) hx hb dX7_blocking_28 hl (k := 2) rfl (rfl) (by decide) rfl (fun ls hl => ?_)
          refine lv_goto (tgt := 4) hx hb dX7_blocking_31 (by decide) ?_
          have hP : va_P g.1 az_cl (az_cM g ad V) _ := hP
          have hD : va_D A (az_cM g ad V) := hD
          exact ih (y1 ||| ((1 : Int32) <<< (y2 &&& 31))) (y2 + (1 : Int32)) _ _ ls h hP hD hS (lv_sub hl [2, 1, 0] rfl)
  refine lv_iconst (v := (0 : Int32)) hx hb dX7_blocking_0 (by decide) ?_
  refine lv_istore_n (lv' := [(1, .int (0 : Int32)), (0, .ref (ad 0))]) hx hb dX7_blocking_1 rfl hl (by decide) rfl (fun ls hl => ?_)
  refine lv_iconst (v := (0 : Int32)) hx hb dX7_blocking_2 (by decide) ?_
  refine lv_istore_n (lv' := [(2, .int (0 : Int32)), (1, .int (0 : Int32)), (0, .ref (ad 0))]) hx hb dX7_blocking_3 rfl hl (by decide) rfl (fun ls hl => ?_)
  have hP : va_P g.1 az_cl (az_cM g ad V) _ := hP
  have hD : va_D A (az_cM g ad V) := hD
  exact hL4 az_fuel (0 : Int32) (0 : Int32) _ _ ls h hP hD hS (lv_sub hl [2, 1, 0] rfl)

def FX7_blockers (V : az_St) : Option (Int32 × (Nat → Int32)) := az_lt (upd (V 2) 1 (0 : Int32)) (fun u2 => (FX7_blocking (va_up V 2 u2)).bind (fun o6 => some (o6, u2)))
theorem inX7_blockers_RX7 : ∀ w ∈ wsX70, w ∈ wsX7_blockers := az_inr [20, 21, 22, 23, 24] (by decide +kernel)
set_option maxHeartbeats 4000000 in
set_option maxRecDepth 100000 in
theorem kX7_blockers (l : Launch) (g : az_G) (ad : Nat → Nat) (V : az_St) (o : Int32 × (Nat → Int32)) (h : FX7_blockers V = some o) : az_I l yX7_blockers wsX7_blockers ({ frames := 4, cells := 0, slots := 0, locals := 86 } : Room) [.ref (ad 0)] g (az_cM g ad V) o.1 (az_cM g ad (va_up V 2 o.2)) := by
  refine az_body (cc := cX7_blockers) (maxL := 1) (ret := (some .int)) (Qc := fun A => az_QI g (az_cM g ad (va_up V 2 o.2)) o.1 A) (by decide +kernel) rfl (Nat.le_of_ble_eq_true rfl) ?_
  intro p e s m args below meth c A hx hb hr hts hown hml hlocks hA hK hP hD hS ls hl
  have hl : lv_has ls 1 [(0, .ref (ad 0))] := hl
  unfold FX7_blockers at h
  refine lv_aload_n hx hb dX7_blockers_0 rfl (lv_at hl 0 rfl) ?_
  refine lv_iconst (v := (0 : Int32)) hx hb dX7_blockers_1 (by decide) ?_
  refine va_put (D := g.1) (ci := 7) (v := .int (0 : Int32)) (ty := .int) (C := RX7) (T := TX7) (N := 5) hx hb hts inX7_blockers_RX7 tyX7 tyX7_ok nmX7 hown hK hP hD hS 0 rfl rfl 3 (Nat.le_of_ble_eq_true rfl) (hts _ (List.mem_of_getElem? (i := 1) rfl)) (fun _ h9 => h9) rfl (by decide +kernel) rfl rfl (Nat.le_of_ble_eq_true rfl) dX7_blockers_2 (fun H locs hP hD hS => ?_)
  obtain ⟨u2, e2⟩ : ∃ w : Nat → Int32, w = upd (V 2) 1 (0 : Int32) := ⟨_, rfl⟩
  have hP : va_P g.1 az_cl (az_cM g ad (va_up V 2 u2)) H := by rw [e2]; exact hP
  have hD : va_D A (az_cM g ad (va_up V 2 u2)) := by rw [e2]; exact hD
  replace h := az_let e2 h
  refine lv_aload_n hx hb dX7_blockers_5 rfl (lv_at hl 0 rfl) ?_
  obtain ⟨o6, hc6, h⟩ := az_bnd h
  refine az_callVi (w2 := az_cM g ad (va_up V 2 u2)) (As := []) (rest := []) ⟨hx, hb, hml, hown, hts⟩ hl.1 (kX7_blocking l g ad (va_up V 2 u2) o6 hc6) (cwV 0 hts gX7_blockers_X7_blocking rfl rfl rfl (by decide +kernel) ⟨Nat.le_of_ble_eq_true rfl, Nat.le_of_ble_eq_true rfl⟩) rfl hK hP hD hS hA [0, 1, 2, 3] [] [0, 1, 2, 3] rfl rfl rfl rfl rfl (by decide) rfl rfl rfl 0 rfl rfl rfl (Nat.le_of_ble_eq_true rfl) dX7_blockers_6 ⟨Nat.zero_le _, Nat.zero_le _⟩ rfl (fun H locs hP hD hS => ?_)
  have hP : va_P g.1 az_cl (az_cM g ad (va_up V 2 u2)) _ := hP
  have hD : va_D A (az_cM g ad (va_up V 2 u2)) := hD
  rw [← Option.some.inj h]
  exact az_iret hx hb hr hlocks hK hP hD hS dX7_blockers_9

def FX7_expel (V : az_St) (x1 : Int32) : Option (Int32 × (Nat → Int32) × (Nat → Int32) × (Nat → Int32)) := (FX7_isReader x1).bind (fun o2 => if o2 = (0 : Int32) then (az_lt (upd (V 2) 1 (1 : Int32)) (fun u39 => if u39 1 ≤ (0 : Int32) then ((FX7_keeps (va_up V 2 u39)).bind (fun o52 => (FX7_lets (va_up (va_up V 1 o52.1) 2 o52.2) x1 (2 : Int32)).bind (fun o58 => some (o58.1, o58.2, o52.1, o52.2)))) else (some ((0 : Int32), (V 0), (V 1), u39)))) else ((FX7_isInside V x1).bind (fun o14 => if o14 = (0 : Int32) then (az_lt (upd (V 2) 1 (2 : Int32)) (fun u39 => if u39 1 ≤ (0 : Int32) then ((FX7_keeps (va_up V 2 u39)).bind (fun o52 => (FX7_lets (va_up (va_up V 1 o52.1) 2 o52.2) x1 (2 : Int32)).bind (fun o58 => some (o58.1, o58.2, o52.1, o52.2)))) else (some ((0 : Int32), (V 0), (V 1), u39)))) else ((FX7_stallOf V x1).bind (fun o22 => if (V 0) (2 : Int32).toNatClampNeg ≤ o22 then (az_lt (upd (V 2) 1 (0 : Int32)) (fun u39 => if u39 1 ≤ (0 : Int32) then ((FX7_keeps (va_up V 2 u39)).bind (fun o52 => (FX7_lets (va_up (va_up V 1 o52.1) 2 o52.2) x1 (2 : Int32)).bind (fun o58 => some (o58.1, o58.2, o52.1, o52.2)))) else (some ((0 : Int32), (V 0), (V 1), u39)))) else (az_lt (upd (V 2) 1 (2 : Int32)) (fun u39 => if u39 1 ≤ (0 : Int32) then ((FX7_keeps (va_up V 2 u39)).bind (fun o52 => (FX7_lets (va_up (va_up V 1 o52.1) 2 o52.2) x1 (2 : Int32)).bind (fun o58 => some (o58.1, o58.2, o52.1, o52.2)))) else (some ((0 : Int32), (V 0), (V 1), u39)))))))))
theorem inX7_expel_RX7 : ∀ w ∈ wsX70, w ∈ wsX7_expel := az_inr [52, 53, 54, 55, 56] (by decide +kernel)
set_option maxHeartbeats 4000000 in
set_option maxRecDepth 100000 in
theorem kX7_expel (l : Launch) (g : az_G) (ad : Nat → Nat) (V : az_St) (x1 : Int32) (o : Int32 × (Nat → Int32) × (Nat → Int32) × (Nat → Int32)) (h : FX7_expel V x1 = some o) : az_I l yX7_expel wsX7_expel ({ frames := 4, cells := 0, slots := 0, locals := 85 } : Room) [.ref (ad 0), .int x1] g (az_cM g ad V) o.1 (az_cM g ad (va_up (va_up (va_up V 0 o.2.1) 1 o.2.2.1) 2 o.2.2.2)) := by
  refine az_body (cc := cX7_expel) (maxL := 2) (ret := (some .int)) (Qc := fun A => az_QI g (az_cM g ad (va_up (va_up (va_up V 0 o.2.1) 1 o.2.2.1) 2 o.2.2.2)) o.1 A) (by decide +kernel) rfl (Nat.le_of_ble_eq_true rfl) ?_
  intro p e s m args below meth c A hx hb hr hts hown hml hlocks hA hK hP hD hS ls hl
  have hl : lv_has ls 2 [(0, .ref (ad 0)), (1, .int x1)] := hl
  unfold FX7_expel at h
  refine lv_aload_n hx hb dX7_expel_0 rfl (lv_at hl 0 rfl) ?_
  refine lv_iload_n hx hb dX7_expel_1 rfl (lv_at hl 1 rfl) ?_
  obtain ⟨o2, hc2, h⟩ := az_bnd h
  refine az_callS0 (As := [.int x1]) (rest := [.ref (ad 0)]) ⟨hx, hb, hml, hown, hts⟩ hl.1 (kX7_isReader l g x1 o2 hc2) (va_cwS 1 hts gX7_expel_X7_isReader rfl rfl rfl (by decide +kernel) ⟨Nat.le_of_ble_eq_true rfl, Nat.le_of_ble_eq_true rfl⟩) rfl hK hP hS hA (Nat.le_of_ble_eq_true rfl) dX7_expel_2 ⟨Nat.zero_le _, Nat.zero_le _⟩ rfl (fun H locs hP hS => ?_)
  refine lv_if_ne (tgt := 12) hx hb dX7_expel_5 (by decide) (fun c5 => ?_) (fun c5 => ?_)
  · replace h := az_neg c5 h
    refine lv_aload_n hx hb dX7_expel_12 rfl (lv_at hl 0 rfl) ?_
    refine lv_iload_n hx hb dX7_expel_13 rfl (lv_at hl 1 rfl) ?_
    obtain ⟨o14, hc14, h⟩ := az_bnd h
    refine az_callVi (w2 := az_cM g ad V) (As := [.int x1]) (rest := [.ref (ad 0)]) ⟨hx, hb, hml, hown, hts⟩ hl.1 (kX7_isInside l g ad V x1 o14 hc14) (cwV 1 hts gX7_expel_X7_isInside rfl rfl rfl (by decide +kernel) ⟨Nat.le_of_ble_eq_true rfl, Nat.le_of_ble_eq_true rfl⟩) rfl hK hP hD hS hA [0, 1, 2, 3] [] [0, 1, 2, 3] rfl rfl rfl rfl rfl (by decide) rfl rfl rfl 0 rfl rfl rfl (Nat.le_of_ble_eq_true rfl) dX7_expel_14 ⟨Nat.zero_le _, Nat.zero_le _⟩ rfl (fun H locs hP hD hS => ?_)
    refine lv_if_eq (tgt := 34) hx hb dX7_expel_17 (by decide) (fun c17 => ?_) (fun c17 => ?_)
    · replace h := az_pos c17 h
      refine lv_iconst (v := (2 : Int32)) hx hb dX7_expel_34 (by decide) ?_
      refine lv_goto (tgt := 39) hx hb dX7_expel_35 (by decide) ?_
      refine va_put (D := g.1) (ci := 7) (v := .int (2 : Int32)) (ty := .int) (C := RX7) (T := TX7) (N := 5) hx hb hts inX7_expel_RX7 tyX7 tyX7_ok nmX7 hown hK hP hD hS 0 rfl rfl 3 (Nat.le_of_ble_eq_true rfl) (hts _ (List.mem_of_getElem? (i := 2) rfl)) (fun _ h9 => h9) rfl (by decide +kernel) rfl rfl (Nat.le_of_ble_eq_true rfl) dX7_expel_39 (fun H locs hP hD hS => ?_)
      obtain ⟨u39, e39⟩ : ∃ w : Nat → Int32, w = upd (V 2) 1 (2 : Int32) := ⟨_, rfl⟩
      have hP : va_P g.1 az_cl (az_cM g ad (va_up V 2 u39)) H := by rw [e39]; exact hP
      have hD : va_D A (az_cM g ad (va_up V 2 u39)) := by rw [e39]; exact hD
      replace h := az_let e39 h
      refine lv_aload_n hx hb dX7_expel_42 rfl (lv_at hl 0 rfl) ?_
      refine va_get (D := g.1) (ci := 7) (v := .int (u39 1)) (C := RX7) (T := TX7) (N := 5) hx hb hts inX7_expel_RX7 hown hK hP 0 rfl rfl 3 (Nat.le_of_ble_eq_true rfl) (hts _ (List.mem_of_getElem? (i := 2) rfl)) (fun _ h9 => h9) rfl dX7_expel_43 ?_
      refine lv_if_le (tgt := 51) hx hb dX7_expel_46 (by decide) (fun c46 => ?_) (fun c46 => ?_)
      · replace h := az_pos c46 h
        refine lv_aload_n hx hb dX7_expel_51 rfl (lv_at hl 0 rfl) ?_
        obtain ⟨o52, hc52, h⟩ := az_bnd h
        refine az_callVv (w2 := az_cM g ad (va_up (va_up V 1 o52.1) 2 o52.2)) (As := []) (rest := []) ⟨hx, hb, hml, hown, hts⟩ hl.1 (kX7_keeps l g ad (va_up V 2 u39) o52 hc52) (cwV 0 hts gX7_expel_X7_keeps rfl rfl rfl (by decide +kernel) ⟨Nat.le_of_ble_eq_true rfl, Nat.le_of_ble_eq_true rfl⟩) rfl hK hP hD hS hA [0, 1, 2, 3] [] [0, 1, 2, 3] rfl rfl rfl rfl rfl (by decide) rfl rfl rfl 0 rfl rfl rfl (Nat.le_of_ble_eq_true rfl) dX7_expel_52 ⟨Nat.zero_le _, Nat.zero_le _⟩ rfl (fun H locs hP hD hS => ?_)
        refine lv_aload_n hx hb dX7_expel_55 rfl (lv_at hl 0 rfl) ?_
        refine lv_iload_n hx hb dX7_expel_56 rfl (lv_at hl 1 rfl) ?_
        refine lv_iconst (v := (2 : Int32)) hx hb dX7_expel_57 (by decide) ?_
        obtain ⟨o58, hc58, h⟩ := az_bnd h
        refine az_callVi (w2 := az_cM g ad (va_up (va_up (va_up V 0 o58.2) 1 o52.1) 2 o52.2)) (As := [.int x1, .int (2 : Int32)]) (rest := []) ⟨hx, hb, hml, hown, hts⟩ hl.1 (kX7_lets l g ad (va_up (va_up V 1 o52.1) 2 o52.2) x1 (2 : Int32) o58 hc58) (cwV 2 hts gX7_expel_X7_lets rfl rfl rfl (by decide +kernel) ⟨Nat.le_of_ble_eq_true rfl, Nat.le_of_ble_eq_true rfl⟩) rfl hK hP hD hS hA [0, 1, 2, 3] [] [0, 1, 2, 3] rfl rfl rfl rfl rfl (by decide) rfl rfl rfl 0 rfl rfl rfl (Nat.le_of_ble_eq_true rfl) dX7_expel_58 ⟨Nat.zero_le _, Nat.zero_le _⟩ rfl (fun H locs hP hD hS => ?_)
        have hP : va_P g.1 az_cl (az_cM g ad (va_up (va_up (va_up V 0 o58.2) 1 o52.1) 2 o52.2)) _ := hP
        have hD : va_D A (az_cM g ad (va_up (va_up (va_up V 0 o58.2) 1 o52.1) 2 o52.2)) := hD
        rw [← Option.some.inj h]
        exact az_iret hx hb hr hlocks hK hP hD hS dX7_expel_61
      · replace h := az_neg c46 h
        refine lv_iconst (v := (0 : Int32)) hx hb dX7_expel_49 (by decide) ?_
        have hP : va_P g.1 az_cl (az_cM g ad (va_up (va_up (va_up V 0 (V 0)) 1 (V 1)) 2 u39)) _ := hP
        have hD : va_D A (az_cM g ad (va_up (va_up (va_up V 0 (V 0)) 1 (V 1)) 2 u39)) := hD
        rw [← Option.some.inj h]
        exact az_iret hx hb hr hlocks hK hP hD hS dX7_expel_50
    · replace h := az_neg c17 h
      refine lv_aload_n hx hb dX7_expel_20 rfl (lv_at hl 0 rfl) ?_
      refine lv_iload_n hx hb dX7_expel_21 rfl (lv_at hl 1 rfl) ?_
      obtain ⟨o22, hc22, h⟩ := az_bnd h
      refine az_callVi (w2 := az_cM g ad V) (As := [.int x1]) (rest := [.ref (ad 0)]) ⟨hx, hb, hml, hown, hts⟩ hl.1 (kX7_stallOf l g ad V x1 o22 hc22) (cwV 1 hts gX7_expel_X7_stallOf rfl rfl rfl (by decide +kernel) ⟨Nat.le_of_ble_eq_true rfl, Nat.le_of_ble_eq_true rfl⟩) rfl hK hP hD hS hA [0, 1, 2, 3] [] [0, 1, 2, 3] rfl rfl rfl rfl rfl (by decide) rfl rfl rfl 0 rfl rfl rfl (Nat.le_of_ble_eq_true rfl) dX7_expel_22 ⟨Nat.zero_le _, Nat.zero_le _⟩ rfl (fun H locs hP hD hS => ?_)
      refine lv_aload_n hx hb dX7_expel_25 rfl (lv_at hl 0 rfl) ?_
      refine va_get (D := g.1) (ci := 7) (v := .ref (ad 1)) (C := RX7) (T := TX7) (N := 5) hx hb hts inX7_expel_RX7 hown hK hP 0 rfl rfl 0 (Nat.le_of_ble_eq_true rfl) (hts _ (List.mem_of_getElem? (i := 1) rfl)) (fun _ h9 => h9) rfl dX7_expel_26 ?_
      refine lv_iconst (v := (2 : Int32)) hx hb dX7_expel_29 (by decide) ?_
      refine va_iald (D := g.1) (f := (V 0)) hx hb hK hP 1 0 rfl rfl (az_vin (by decide +kernel)) dX7_expel_30 ?_
      refine lv_icmp_ge (tgt := 38) hx hb dX7_expel_31 (by decide) (fun c31 => ?_) (fun c31 => ?_)
      · replace h := az_pos c31 h
        refine lv_iconst (v := (0 : Int32)) hx hb dX7_expel_38 (by decide) ?_
        refine va_put (D := g.1) (ci := 7) (v := .int (0 : Int32)) (ty := .int) (C := RX7) (T := TX7) (N := 5) hx hb hts inX7_expel_RX7 tyX7 tyX7_ok nmX7 hown hK hP hD hS 0 rfl rfl 3 (Nat.le_of_ble_eq_true rfl) (hts _ (List.mem_of_getElem? (i := 2) rfl)) (fun _ h9 => h9) rfl (by decide +kernel) rfl rfl (Nat.le_of_ble_eq_true rfl) dX7_expel_39 (fun H locs hP hD hS => ?_)
        obtain ⟨u39, e39⟩ : ∃ w : Nat → Int32, w = upd (V 2) 1 (0 : Int32) := ⟨_, rfl⟩
        have hP : va_P g.1 az_cl (az_cM g ad (va_up V 2 u39)) H := by rw [e39]; exact hP
        have hD : va_D A (az_cM g ad (va_up V 2 u39)) := by rw [e39]; exact hD
        replace h := az_let e39 h
        refine lv_aload_n hx hb dX7_expel_42 rfl (lv_at hl 0 rfl) ?_
        refine va_get (D := g.1) (ci := 7) (v := .int (u39 1)) (C := RX7) (T := TX7) (N := 5) hx hb hts inX7_expel_RX7 hown hK hP 0 rfl rfl 3 (Nat.le_of_ble_eq_true rfl) (hts _ (List.mem_of_getElem? (i := 2) rfl)) (fun _ h9 => h9) rfl dX7_expel_43 ?_
        refine lv_if_le (tgt := 51) hx hb dX7_expel_46 (by decide) (fun c46 => ?_) (fun c46 => ?_)
        · replace h := az_pos c46 h
          refine lv_aload_n hx hb dX7_expel_51 rfl (lv_at hl 0 rfl) ?_
          obtain ⟨o52, hc52, h⟩ := az_bnd h
          refine az_callVv (w2 := az_cM g ad (va_up (va_up V 1 o52.1) 2 o52.2)) (As := []) (rest := []) ⟨hx, hb, hml, hown, hts⟩ hl.1 (kX7_keeps l g ad (va_up V 2 u39) o52 hc52) (cwV 0 hts gX7_expel_X7_keeps rfl rfl rfl (by decide +kernel) ⟨Nat.le_of_ble_eq_true rfl, Nat.le_of_ble_eq_true rfl⟩) rfl hK hP hD hS hA [0, 1, 2, 3] [] [0, 1, 2, 3] rfl rfl rfl rfl rfl (by decide) rfl rfl rfl 0 rfl rfl rfl (Nat.le_of_ble_eq_true rfl) dX7_expel_52 ⟨Nat.zero_le _, Nat.zero_le _⟩ rfl (fun H locs hP hD hS => ?_)
          refine lv_aload_n hx hb dX7_expel_55 rfl (lv_at hl 0 rfl) ?_
          refine lv_iload_n hx hb dX7_expel_56 rfl (lv_at hl 1 rfl) ?_
          refine lv_iconst (v := (2 : Int32)) hx hb dX7_expel_57 (by decide) ?_
          obtain ⟨o58, hc58, h⟩ := az_bnd h
          refine az_callVi (w2 := az_cM g ad (va_up (va_up (va_up V 0 o58.2) 1 o52.1) 2 o52.2)) (As := [.int x1, .int (2 : Int32)]) (rest := []) ⟨hx, hb, hml, hown, hts⟩ hl.1 (kX7_lets l g ad (va_up (va_up V 1 o52.1) 2 o52.2) x1 (2 : Int32) o58 hc58) (cwV 2 hts gX7_expel_X7_lets rfl rfl rfl (by decide +kernel) ⟨Nat.le_of_ble_eq_true rfl, Nat.le_of_ble_eq_true rfl⟩) rfl hK hP hD hS hA [0, 1, 2, 3] [] [0, 1, 2, 3] rfl rfl rfl rfl rfl (by decide) rfl rfl rfl 0 rfl rfl rfl (Nat.le_of_ble_eq_true rfl) dX7_expel_58 ⟨Nat.zero_le _, Nat.zero_le _⟩ rfl (fun H locs hP hD hS => ?_)
          have hP : va_P g.1 az_cl (az_cM g ad (va_up (va_up (va_up V 0 o58.2) 1 o52.1) 2 o52.2)) _ := hP
          have hD : va_D A (az_cM g ad (va_up (va_up (va_up V 0 o58.2) 1 o52.1) 2 o52.2)) := hD
          rw [← Option.some.inj h]
          exact az_iret hx hb hr hlocks hK hP hD hS dX7_expel_61
        · replace h := az_neg c46 h
          refine lv_iconst (v := (0 : Int32)) hx hb dX7_expel_49 (by decide) ?_
          have hP : va_P g.1 az_cl (az_cM g ad (va_up (va_up (va_up V 0 (V 0)) 1 (V 1)) 2 u39)) _ := hP
          have hD : va_D A (az_cM g ad (va_up (va_up (va_up V 0 (V 0)) 1 (V 1)) 2 u39)) := hD
          rw [← Option.some.inj h]
          exact az_iret hx hb hr hlocks hK hP hD hS dX7_expel_50
      · replace h := az_neg c31 h
        refine lv_iconst (v := (2 : Int32)) hx hb dX7_expel_34 (by decide) ?_
        refine lv_goto (tgt := 39) hx hb dX7_expel_35 (by decide) ?_
        refine va_put (D := g.1) (ci := 7) (v := .int (2 : Int32)) (ty := .int) (C := RX7) (T := TX7) (N := 5) hx hb hts inX7_expel_RX7 tyX7 tyX7_ok nmX7 hown hK hP hD hS 0 rfl rfl 3 (Nat.le_of_ble_eq_true rfl) (hts _ (List.mem_of_getElem? (i := 2) rfl)) (fun _ h9 => h9) rfl (by decide +kernel) rfl rfl (Nat.le_of_ble_eq_true rfl) dX7_expel_39 (fun H locs hP hD hS => ?_)
        obtain ⟨u39, e39⟩ : ∃ w : Nat → Int32, w = upd (V 2) 1 (2 : Int32) := ⟨_, rfl⟩
        have hP : va_P g.1 az_cl (az_cM g ad (va_up V 2 u39)) H := by rw [e39]; exact hP
        have hD : va_D A (az_cM g ad (va_up V 2 u39)) := by rw [e39]; exact hD
        replace h := az_let e39 h
        refine lv_aload_n hx hb dX7_expel_42 rfl (lv_at hl 0 rfl) ?_
        refine va_get (D := g.1) (ci := 7) (v := .int (u39 1)) (C := RX7) (T := TX7) (N := 5) hx hb hts inX7_expel_RX7 hown hK hP 0 rfl rfl 3 (Nat.le_of_ble_eq_true rfl) (hts _ (List.mem_of_getElem? (i := 2) rfl)) (fun _ h9 => h9) rfl dX7_expel_43 ?_
        refine lv_if_le (tgt := 51) hx hb dX7_expel_46 (by decide) (fun c46 => ?_) (fun c46 => ?_)
        · replace h := az_pos c46 h
          refine lv_aload_n hx hb dX7_expel_51 rfl (lv_at hl 0 rfl) ?_
          obtain ⟨o52, hc52, h⟩ := az_bnd h
          refine az_callVv (w2 := az_cM g ad (va_up (va_up V 1 o52.1) 2 o52.2)) (As := []) (rest := []) ⟨hx, hb, hml, hown, hts⟩ hl.1 (kX7_keeps l g ad (va_up V 2 u39) o52 hc52) (cwV 0 hts gX7_expel_X7_keeps rfl rfl rfl (by decide +kernel) ⟨Nat.le_of_ble_eq_true rfl, Nat.le_of_ble_eq_true rfl⟩) rfl hK hP hD hS hA [0, 1, 2, 3] [] [0, 1, 2, 3] rfl rfl rfl rfl rfl (by decide) rfl rfl rfl 0 rfl rfl rfl (Nat.le_of_ble_eq_true rfl) dX7_expel_52 ⟨Nat.zero_le _, Nat.zero_le _⟩ rfl (fun H locs hP hD hS => ?_)
          refine lv_aload_n hx hb dX7_expel_55 rfl (lv_at hl 0 rfl) ?_
          refine lv_iload_n hx hb dX7_expel_56 rfl (lv_at hl 1 rfl) ?_
          refine lv_iconst (v := (2 : Int32)) hx hb dX7_expel_57 (by decide) ?_
          obtain ⟨o58, hc58, h⟩ := az_bnd h
          refine az_callVi (w2 := az_cM g ad (va_up (va_up (va_up V 0 o58.2) 1 o52.1) 2 o52.2)) (As := [.int x1, .int (2 : Int32)]) (rest := []) ⟨hx, hb, hml, hown, hts⟩ hl.1 (kX7_lets l g ad (va_up (va_up V 1 o52.1) 2 o52.2) x1 (2 : Int32) o58 hc58) (cwV 2 hts gX7_expel_X7_lets rfl rfl rfl (by decide +kernel) ⟨Nat.le_of_ble_eq_true rfl, Nat.le_of_ble_eq_true rfl⟩) rfl hK hP hD hS hA [0, 1, 2, 3] [] [0, 1, 2, 3] rfl rfl rfl rfl rfl (by decide) rfl rfl rfl 0 rfl rfl rfl (Nat.le_of_ble_eq_true rfl) dX7_expel_58 ⟨Nat.zero_le _, Nat.zero_le _⟩ rfl (fun H locs hP hD hS => ?_)
          have hP : va_P g.1 az_cl (az_cM g ad (va_up (va_up (va_up V 0 o58.2) 1 o52.1) 2 o52.2)) _ := hP
          have hD : va_D A (az_cM g ad (va_up (va_up (va_up V 0 o58.2) 1 o52.1) 2 o52.2)) := hD
          rw [← Option.some.inj h]
          exact az_iret hx hb hr hlocks hK hP hD hS dX7_expel_61
        · replace h := az_neg c46 h
          refine lv_iconst (v := (0 : Int32)) hx hb dX7_expel_49 (by decide) ?_
          have hP : va_P g.1 az_cl (az_cM g ad (va_up (va_up (va_up V 0 (V 0)) 1 (V 1)) 2 u39)) _ := hP
          have hD : va_D A (az_cM g ad (va_up (va_up (va_up V 0 (V 0)) 1 (V 1)) 2 u39)) := hD
          rw [← Option.some.inj h]
          exact az_iret hx hb hr hlocks hK hP hD hS dX7_expel_50
  · replace h := az_pos c5 h
    refine lv_iconst (v := (1 : Int32)) hx hb dX7_expel_8 (by decide) ?_
    refine lv_goto (tgt := 39) hx hb dX7_expel_9 (by decide) ?_
    refine va_put (D := g.1) (ci := 7) (v := .int (1 : Int32)) (ty := .int) (C := RX7) (T := TX7) (N := 5) hx hb hts inX7_expel_RX7 tyX7 tyX7_ok nmX7 hown hK hP hD hS 0 rfl rfl 3 (Nat.le_of_ble_eq_true rfl) (hts _ (List.mem_of_getElem? (i := 2) rfl)) (fun _ h9 => h9) rfl (by decide +kernel) rfl rfl (Nat.le_of_ble_eq_true rfl) dX7_expel_39 (fun H locs hP hD hS => ?_)
    obtain ⟨u39, e39⟩ : ∃ w : Nat → Int32, w = upd (V 2) 1 (1 : Int32) := ⟨_, rfl⟩
    have hP : va_P g.1 az_cl (az_cM g ad (va_up V 2 u39)) H := by rw [e39]; exact hP
    have hD : va_D A (az_cM g ad (va_up V 2 u39)) := by rw [e39]; exact hD
    replace h := az_let e39 h
    refine lv_aload_n hx hb dX7_expel_42 rfl (lv_at hl 0 rfl) ?_
    refine va_get (D := g.1) (ci := 7) (v := .int (u39 1)) (C := RX7) (T := TX7) (N := 5) hx hb hts inX7_expel_RX7 hown hK hP 0 rfl rfl 3 (Nat.le_of_ble_eq_true rfl) (hts _ (List.mem_of_getElem? (i := 2) rfl)) (fun _ h9 => h9) rfl dX7_expel_43 ?_
    refine lv_if_le (tgt := 51) hx hb dX7_expel_46 (by decide) (fun c46 => ?_) (fun c46 => ?_)
    · replace h := az_pos c46 h
      refine lv_aload_n hx hb dX7_expel_51 rfl (lv_at hl 0 rfl) ?_
      obtain ⟨o52, hc52, h⟩ := az_bnd h
      refine az_callVv (w2 := az_cM g ad (va_up (va_up V 1 o52.1) 2 o52.2)) (As := []) (rest := []) ⟨hx, hb, hml, hown, hts⟩ hl.1 (kX7_keeps l g ad (va_up V 2 u39) o52 hc52) (cwV 0 hts gX7_expel_X7_keeps rfl rfl rfl (by decide +kernel) ⟨Nat.le_of_ble_eq_true rfl, Nat.le_of_ble_eq_true rfl⟩) rfl hK hP hD hS hA [0, 1, 2, 3] [] [0, 1, 2, 3] rfl rfl rfl rfl rfl (by decide) rfl rfl rfl 0 rfl rfl rfl (Nat.le_of_ble_eq_true rfl) dX7_expel_52 ⟨Nat.zero_le _, Nat.zero_le _⟩ rfl (fun H locs hP hD hS => ?_)
      refine lv_aload_n hx hb dX7_expel_55 rfl (lv_at hl 0 rfl) ?_
      refine lv_iload_n hx hb dX7_expel_56 rfl (lv_at hl 1 rfl) ?_
      refine lv_iconst (v := (2 : Int32)) hx hb dX7_expel_57 (by decide) ?_
      obtain ⟨o58, hc58, h⟩ := az_bnd h
      refine az_callVi (w2 := az_cM g ad (va_up (va_up (va_up V 0 o58.2) 1 o52.1) 2 o52.2)) (As := [.int x1, .int (2 : Int32)]) (rest := []) ⟨hx, hb, hml, hown, hts⟩ hl.1 (kX7_lets l g ad (va_up (va_up V 1 o52.1) 2 o52.2) x1 (2 : Int32) o58 hc58) (cwV 2 hts gX7_expel_X7_lets rfl rfl rfl (by decide +kernel) ⟨Nat.le_of_ble_eq_true rfl, Nat.le_of_ble_eq_true rfl⟩) rfl hK hP hD hS hA [0, 1, 2, 3] [] [0, 1, 2, 3] rfl rfl rfl rfl rfl (by decide) rfl rfl rfl 0 rfl rfl rfl (Nat.le_of_ble_eq_true rfl) dX7_expel_58 ⟨Nat.zero_le _, Nat.zero_le _⟩ rfl (fun H locs hP hD hS => ?_)
      have hP : va_P g.1 az_cl (az_cM g ad (va_up (va_up (va_up V 0 o58.2) 1 o52.1) 2 o52.2)) _ := hP
      have hD : va_D A (az_cM g ad (va_up (va_up (va_up V 0 o58.2) 1 o52.1) 2 o52.2)) := hD
      rw [← Option.some.inj h]
      exact az_iret hx hb hr hlocks hK hP hD hS dX7_expel_61
    · replace h := az_neg c46 h
      refine lv_iconst (v := (0 : Int32)) hx hb dX7_expel_49 (by decide) ?_
      have hP : va_P g.1 az_cl (az_cM g ad (va_up (va_up (va_up V 0 (V 0)) 1 (V 1)) 2 u39)) _ := hP
      have hD : va_D A (az_cM g ad (va_up (va_up (va_up V 0 (V 0)) 1 (V 1)) 2 u39)) := hD
      rw [← Option.some.inj h]
      exact az_iret hx hb hr hlocks hK hP hD hS dX7_expel_50

def FX7_advancesWithout_L7 : Nat → az_St → Int32 → Int32 → Int32 → Int32 → Option (Int32)
  | 0, _, _, _, _, _ => none
  | n + 1, V, x1, y2, y3, y4 => if (6 : Int32) ≤ y4 then (if y2 ≤ (0 : Int32) then (if y3 ≤ (0 : Int32) then (some ((2 : Int32))) else (some ((1 : Int32)))) else (some ((0 : Int32)))) else (if y4 = x1 then (FX7_advancesWithout_L7 n V x1 y2 y3 (y4 + (1 : Int32))) else ((FX7_isStalled V y4).bind (fun o27 => if o27 = (0 : Int32) then ((FX7_isInside V y4).bind (fun o44 => if o44 = (0 : Int32) then (FX7_advancesWithout_L7 n V x1 (y2 + (0 : Int32)) (y3 + (0 : Int32)) (y4 + (1 : Int32))) else (FX7_advancesWithout_L7 n V x1 (y2 + (0 : Int32)) (y3 + (1 : Int32)) (y4 + (1 : Int32))))) else ((FX7_isInside V y4).bind (fun o44 => if o44 = (0 : Int32) then (FX7_advancesWithout_L7 n V x1 (y2 + (1 : Int32)) (y3 + (0 : Int32)) (y4 + (1 : Int32))) else (FX7_advancesWithout_L7 n V x1 (y2 + (1 : Int32)) (y3 + (1 : Int32)) (y4 + (1 : Int32))))))))
theorem FX7_advancesWithout_L7_s (n : Nat) (V : az_St) (x1 : Int32) (y2 : Int32) (y3 : Int32) (y4 : Int32) : FX7_advancesWithout_L7 (n + 1) V x1 y2 y3 y4 = (if (6 : Int32) ≤ y4 then (if y2 ≤ (0 : Int32) then (if y3 ≤ (0 : Int32) then (some ((2 : Int32))) else (some ((1 : Int32)))) else (some ((0 : Int32)))) else (if y4 = x1 then (FX7_advancesWithout_L7 n V x1 y2 y3 (y4 + (1 : Int32))) else ((FX7_isStalled V y4).bind (fun o27 => if o27 = (0 : Int32) then ((FX7_isInside V y4).bind (fun o44 => if o44 = (0 : Int32) then (FX7_advancesWithout_L7 n V x1 (y2 + (0 : Int32)) (y3 + (0 : Int32)) (y4 + (1 : Int32))) else (FX7_advancesWithout_L7 n V x1 (y2 + (0 : Int32)) (y3 + (1 : Int32)) (y4 + (1 : Int32))))) else ((FX7_isInside V y4).bind (fun o44 => if o44 = (0 : Int32) then (FX7_advancesWithout_L7 n V x1 (y2 + (1 : Int32)) (y3 + (0 : Int32)) (y4 + (1 : Int32))) else (FX7_advancesWithout_L7 n V x1 (y2 + (1 : Int32)) (y3 + (1 : Int32)) (y4 + (1 : Int32))))))))) := rfl
def FX7_advancesWithout (V : az_St) (x1 : Int32) : Option (Int32) := FX7_advancesWithout_L7 az_fuel V x1 (0 : Int32) (0 : Int32) (0 : Int32)
set_option maxHeartbeats 4000000 in
set_option maxRecDepth 100000 in
theorem kX7_advancesWithout (l : Launch) (g : az_G) (ad : Nat → Nat) (V : az_St) (x1 : Int32) (o : Int32) (h : FX7_advancesWithout V x1 = some o) : az_I l yX7_advancesWithout wsX7_advancesWithout ({ frames := 3, cells := 0, slots := 0, locals := 64 } : Room) [.ref (ad 0), .int x1] g (az_cM g ad V) o (az_cM g ad V) := by
  refine az_body (cc := cX7_advancesWithout) (maxL := 5) (ret := (some .int)) (Qc := fun A => az_QI g (az_cM g ad V) o A) (by decide +kernel) rfl (Nat.le_of_ble_eq_true rfl) ?_
  intro p e s m args below meth c A hx hb hr hts hown hml hlocks hA hK hP hD hS ls hl
  have hl : lv_has ls 5 [(0, .ref (ad 0)), (1, .int x1)] := hl
  unfold FX7_advancesWithout at h
  have hL7 : ∀ (n : Nat) (y2 : Int32) (y3 : Int32) (y4 : Int32) (H : Heap) (locs : List Loc) (ls : Array Slot), FX7_advancesWithout_L7 n V x1 y2 y3 y4 = some o → va_P g.1 az_cl (az_cM g ad V) H → va_D A (az_cM g ad V) → va_S A s.heap H locs → lv_has ls 5 [(0, .ref (ad 0)), (1, .int x1), (2, .int y2), (3, .int y3), (4, .int y4)] → W p l e ({ frames := 3, cells := 0, slots := 0, locals := 64 } : Room) s m args below meth c H locs 0 0 (MQ below (az_QI g (az_cM g ad V) o A) args s 0 0 A) (F0 m 7 ls []) := by
    intro n
    induction n with
    | zero => intro y2 y3 y4 H locs ls h; exact az_non h
    | succ n ih =>
      intro y2 y3 y4 H locs ls h hP hD hS hl
      rw [FX7_advancesWithout_L7_s] at h
      refine lv_iload hx hb dX7_advancesWithout_7 (lv_at hl 4 rfl) ?_
      refine lv_bipush (v := (6 : Int32)) hx hb dX7_advancesWithout_9 (by decide) ?_
      refine lv_icmp_ge (tgt := 63) hx hb dX7_advancesWithout_11 (by decide) (fun c11 => ?_) (fun c11 => ?_)
      · replace h := az_pos c11 h
        refine lv_iload_n hx hb dX7_advancesWithout_63 rfl (lv_at hl 2 rfl) ?_
        refine lv_if_le (tgt := 71) hx hb dX7_advancesWithout_64 (by decide) (fun c64 => ?_) (fun c64 => ?_)
        · replace h := az_pos c64 h
          refine lv_iload_n hx hb dX7_advancesWithout_71 rfl (lv_at hl 3 rfl) ?_
          refine lv_if_le (tgt := 79) hx hb dX7_advancesWithout_72 (by decide) (fun c72 => ?_) (fun c72 => ?_)
          · replace h := az_pos c72 h
            refine lv_iconst (v := (2 : Int32)) hx hb dX7_advancesWithout_79 (by decide) ?_
            have hP : va_P g.1 az_cl (az_cM g ad V) _ := hP
            have hD : va_D A (az_cM g ad V) := hD
            rw [← Option.some.inj h]
            exact az_iret hx hb hr hlocks hK hP hD hS dX7_advancesWithout_80
          · replace h := az_neg c72 h
            refine lv_iconst (v := (1 : Int32)) hx hb dX7_advancesWithout_75 (by decide) ?_
            refine lv_goto (tgt := 80) hx hb dX7_advancesWithout_76 (by decide) ?_
            have hP : va_P g.1 az_cl (az_cM g ad V) _ := hP
            have hD : va_D A (az_cM g ad V) := hD
            rw [← Option.some.inj h]
            exact az_iret hx hb hr hlocks hK hP hD hS dX7_advancesWithout_80
        · replace h := az_neg c64 h
          refine lv_iconst (v := (0 : Int32)) hx hb dX7_advancesWithout_67 (by decide) ?_
          refine lv_goto (tgt := 80) hx hb dX7_advancesWithout_68 (by decide) ?_
          have hP : va_P g.1 az_cl (az_cM g ad V) _ := hP
          have hD : va_D A (az_cM g ad V) := hD
          rw [← Option.some.inj h]
          exact az_iret hx hb hr hlocks hK hP hD hS dX7_advancesWithout_80
      · replace h := az_neg c11 h
        refine lv_iload hx hb dX7_advancesWithout_14 (lv_at hl 4 rfl) ?_
        refine lv_iload_n hx hb dX7_advancesWithout_16 rfl (lv_at hl 1 rfl) ?_
        refine lv_icmp_ne (tgt := 23) hx hb dX7_advancesWithout_17 (by decide) (fun c17 => ?_) (fun c17 => ?_)
        · replace h := az_neg c17 h
          refine lv_iload_n hx hb dX7_advancesWithout_23 rfl (lv_at hl 2 rfl) ?_
          refine lv_aload_n hx hb dX7_advancesWithout_24 rfl (lv_at hl 0 rfl) ?_
          refine lv_iload hx hb dX7_advancesWithout_25 (lv_at hl 4 rfl) ?_
          obtain ⟨o27, hc27, h⟩ := az_bnd h
          refine az_callVi (w2 := az_cM g ad V) (As := [.int y4]) (rest := [.int y2]) ⟨hx, hb, hml, hown, hts⟩ hl.1 (kX7_isStalled l g ad V y4 o27 hc27) (cwV 1 hts gX7_advancesWithout_X7_isStalled rfl rfl rfl (by decide +kernel) ⟨Nat.le_of_ble_eq_true rfl, Nat.le_of_ble_eq_true rfl⟩) rfl hK hP hD hS hA [0, 1, 2, 3] [] [0, 1, 2, 3] rfl rfl rfl rfl rfl (by decide) rfl rfl rfl 0 rfl rfl rfl (Nat.le_of_ble_eq_true rfl) dX7_advancesWithout_27 ⟨Nat.zero_le _, Nat.zero_le _⟩ rfl (fun H locs hP hD hS => ?_)
          refine lv_if_eq (tgt := 37) hx hb dX7_advancesWithout_30 (by decide) (fun c30 => ?_) (fun c30 => ?_)
          · replace h := az_pos c30 h
            refine lv_iconst (v := (0 : Int32)) hx hb dX7_advancesWithout_37 (by decide) ?_
            refine lv_iadd hx hb dX7_advancesWithout_38 ?_
            refine lv_istore_n (lv' := [(2, .int (y2 + (0 : Int32))), (0, .ref (ad 0)), (1, .int x1), (3, .int y3), (4, .int y4)]) hx hb dX7_advancesWithout_39 rfl hl (by decide) rfl (fun ls hl => ?_)
            refine lv_iload_n hx hb dX7_advancesWithout_40 rfl (lv_at hl 3 rfl) ?_
            refine lv_aload_n hx hb dX7_advancesWithout_41 rfl (lv_at hl 1 rfl) ?_
            refine lv_iload hx hb dX7_advancesWithout_42 (lv_at hl 4 rfl) ?_
            obtain ⟨o44, hc44, h⟩ := az_bnd h
            refine az_callVi (w2 := az_cM g ad V) (As := [.int y4]) (rest := [.int y3]) ⟨hx, hb, hml, hown, hts⟩ hl.1 (kX7_isInside l g ad V y4 o44 hc44) (cwV 1 hts gX7_advancesWithout_X7_isInside rfl rfl rfl (by decide +kernel) ⟨Nat.le_of_ble_eq_true rfl, Nat.le_of_ble_eq_true rfl⟩) rfl hK hP hD hS hA [0, 1, 2, 3] [] [0, 1, 2, 3] rfl rfl rfl rfl rfl (by decide) rfl rfl rfl 0 rfl rfl rfl (Nat.le_of_ble_eq_true rfl) dX7_advancesWithout_44 ⟨Nat.zero_le _, Nat.zero_le _⟩ rfl (fun H locs hP hD hS => ?_)
            refine lv_if_eq (tgt := 54) hx hb dX7_advancesWithout_47 (by decide) (fun c47 => ?_) (fun c47 => ?_)
            · replace h := az_pos c47 h
              refine lv_iconst (v := (0 : Int32)) hx hb dX7_advancesWithout_54 (by decide) ?_
              refine lv_iadd hx hb dX7_advancesWithout_55 ?_
              refine lv_istore_n (lv' := [(3, .int (y3 + (0 : Int32))), (2, .int (y2 + (0 : Int32))), (0, .ref (ad 0)), (1, .int x1), (4, .int y4)]) hx hb dX7_advancesWithout_56 rfl hl (by decide) rfl (fun ls hl => ?_)
              refine lv_iinc (v := y4 + (1 : Int32)) (lv' := [(4, .int (y4 + (1 : Int32))), (3, .int (y3 + (0 : Int32))), (2, .int (y2 + (0 : Int32))), (0, .ref (ad 0)), (1, .int x1)]) hx hb dX7_advancesWithout_57 hl (k := 4) rfl (rfl) (by decide) rfl (fun ls hl => ?_)
              refine lv_goto (tgt := 7) hx hb dX7_advancesWithout_60 (by decide) ?_
              have hP : va_P g.1 az_cl (az_cM g ad V) _ := hP
              have hD : va_D A (az_cM g ad V) := hD
              exact ih (y2 + (0 : Int32)) (y3 + (0 : Int32)) (y4 + (1 : Int32)) _ _ ls h hP hD hS (lv_sub hl [3, 4, 2, 1, 0] rfl)
            · replace h := az_neg c47 h
              refine lv_iconst (v := (1 : Int32)) hx hb dX7_advancesWithout_50 (by decide) ?_
              refine lv_goto (tgt := 55) hx hb dX7_advancesWithout_51 (by decide) ?_
              refine lv_iadd hx hb dX7_advancesWithout_55 ?_
              refine lv_istore_n (lv' := [(3, .int (y3 + (1 : Int32))), (2, .int (y2 + (0 : Int32))), (0, .ref (ad 0)), (1, .int x1), (4, .int y4)]) hx hb dX7_advancesWithout_56 rfl hl (by decide) rfl (fun ls hl => ?_)
              refine lv_iinc (v := y4 + (1 : Int32)) (lv' := [(4, .int (y4 + (1 : Int32))), (3, .int (y3 + (1 : Int32))), (2, .int (y2 + (0 : Int32))), (0, .ref (ad 0)), (1, .int x1)]) hx hb dX7_advancesWithout_57 hl (k := 4) rfl (rfl) (by decide) rfl (fun ls hl => ?_)
              refine lv_goto (tgt := 7) hx hb dX7_advancesWithout_60 (by decide) ?_
              have hP : va_P g.1 az_cl (az_cM g ad V) _ := hP
              have hD : va_D A (az_cM g ad V) := hD
              exact ih (y2 + (0 : Int32)) (y3 + (1 : Int32)) (y4 + (1 : Int32)) _ _ ls h hP hD hS (lv_sub hl [3, 4, 2, 1, 0] rfl)
          · replace h := az_neg c30 h
            refine lv_iconst (v := (1 : Int32)) hx hb dX7_advancesWithout_33 (by decide) ?_
            refine lv_goto (tgt := 38) hx hb dX7_advancesWithout_34 (by decide) ?_
            refine lv_iadd hx hb dX7_advancesWithout_38 ?_
            refine lv_istore_n (lv' := [(2, .int (y2 + (1 : Int32))), (0, .ref (ad 0)), (1, .int x1), (3, .int y3), (4, .int y4)]) hx hb dX7_advancesWithout_39 rfl hl (by decide) rfl (fun ls hl => ?_)
            refine lv_iload_n hx hb dX7_advancesWithout_40 rfl (lv_at hl 3 rfl) ?_
            refine lv_aload_n hx hb dX7_advancesWithout_41 rfl (lv_at hl 1 rfl) ?_
            refine lv_iload hx hb dX7_advancesWithout_42 (lv_at hl 4 rfl) ?_
            obtain ⟨o44, hc44, h⟩ := az_bnd h
            refine az_callVi (w2 := az_cM g ad V) (As := [.int y4]) (rest := [.int y3]) ⟨hx, hb, hml, hown, hts⟩ hl.1 (kX7_isInside l g ad V y4 o44 hc44) (cwV 1 hts gX7_advancesWithout_X7_isInside rfl rfl rfl (by decide +kernel) ⟨Nat.le_of_ble_eq_true rfl, Nat.le_of_ble_eq_true rfl⟩) rfl hK hP hD hS hA [0, 1, 2, 3] [] [0, 1, 2, 3] rfl rfl rfl rfl rfl (by decide) rfl rfl rfl 0 rfl rfl rfl (Nat.le_of_ble_eq_true rfl) dX7_advancesWithout_44 ⟨Nat.zero_le _, Nat.zero_le _⟩ rfl (fun H locs hP hD hS => ?_)
            refine lv_if_eq (tgt := 54) hx hb dX7_advancesWithout_47 (by decide) (fun c47 => ?_) (fun c47 => ?_)
            · replace h := az_pos c47 h
              refine lv_iconst (v := (0 : Int32)) hx hb dX7_advancesWithout_54 (by decide) ?_
              refine lv_iadd hx hb dX7_advancesWithout_55 ?_
              refine lv_istore_n (lv' := [(3, .int (y3 + (0 : Int32))), (2, .int (y2 + (1 : Int32))), (0, .ref (ad 0)), (1, .int x1), (4, .int y4)]) hx hb dX7_advancesWithout_56 rfl hl (by decide) rfl (fun ls hl => ?_)
              refine lv_iinc (v := y4 + (1 : Int32)) (lv' := [(4, .int (y4 + (1 : Int32))), (3, .int (y3 + (0 : Int32))), (2, .int (y2 + (1 : Int32))), (0, .ref (ad 0)), (1, .int x1)]) hx hb dX7_advancesWithout_57 hl (k := 4) rfl (rfl) (by decide) rfl (fun ls hl => ?_)
              refine lv_goto (tgt := 7) hx hb dX7_advancesWithout_60 (by decide) ?_
              have hP : va_P g.1 az_cl (az_cM g ad V) _ := hP
              have hD : va_D A (az_cM g ad V) := hD
              exact ih (y2 + (1 : Int32)) (y3 + (0 : Int32)) (y4 + (1 : Int32)) _ _ ls h hP hD hS (lv_sub hl [3, 4, 2, 1, 0] rfl)
            · replace h := az_neg c47 h
              refine lv_iconst (v := (1 : Int32)) hx hb dX7_advancesWithout_50 (by decide) ?_
              refine lv_goto (tgt := 55) hx hb dX7_advancesWithout_51 (by decide) ?_
              refine lv_iadd hx hb dX7_advancesWithout_55 ?_
              refine lv_istore_n (lv' := [(3, .int (y3 + (1 : Int32))), (2, .int (y2 + (1 : Int32))), (0, .ref (ad 0)), (1, .int x1), (4, .int y4)]) hx hb dX7_advancesWithout_56 rfl hl (by decide) rfl (fun ls hl => ?_)
              refine lv_iinc (v := y4 + (1 : Int32)) (lv' := [(4, .int (y4 + (1 : Int32))), (3, .int (y3 + (1 : Int32))), (2, .int (y2 + (1 : Int32))), (0, .ref (ad 0)), (1, .int x1)]) hx hb dX7_advancesWithout_57 hl (k := 4) rfl (rfl) (by decide) rfl (fun ls hl => ?_)
              refine lv_goto (tgt := 7) hx hb dX7_advancesWithout_60 (by decide) ?_
              have hP : va_P g.1 az_cl (az_cM g ad V) _ := hP
              have hD : va_D A (az_cM g ad V) := hD
              exact ih (y2 + (1 : Int32)) (y3 + (1 : Int32)) (y4 + (1 : Int32)) _ _ ls h hP hD hS (lv_sub hl [3, 4, 2, 1, 0] rfl)
        · replace h := az_pos c17 h
          refine lv_goto (tgt := 57) hx hb dX7_advancesWithout_20 (by decide) ?_
          refine lv_iinc (v := y4 + (1 : Int32)) (lv' := [(4, .int (y4 + (1 : Int32))), (0, .ref (ad 0)), (1, .int x1), (2, .int y2), (3, .int y3)]) hx hb dX7_advancesWithout_57 hl (k := 4) rfl (rfl) (by decide) rfl (fun ls hl => ?_)
          refine lv_goto (tgt := 7) hx hb dX7_advancesWithout_60 (by decide) ?_
          have hP : va_P g.1 az_cl (az_cM g ad V) _ := hP
          have hD : va_D A (az_cM g ad V) := hD
          exact ih y2 y3 (y4 + (1 : Int32)) _ _ ls h hP hD hS (lv_sub hl [1, 2, 3, 4, 0] rfl)
  refine lv_iconst (v := (0 : Int32)) hx hb dX7_advancesWithout_0 (by decide) ?_
  refine lv_istore_n (lv' := [(2, .int (0 : Int32)), (0, .ref (ad 0)), (1, .int x1)]) hx hb dX7_advancesWithout_1 rfl hl (by decide) rfl (fun ls hl => ?_)
  refine lv_iconst (v := (0 : Int32)) hx hb dX7_advancesWithout_2 (by decide) ?_
  refine lv_istore_n (lv' := [(3, .int (0 : Int32)), (2, .int (0 : Int32)), (0, .ref (ad 0)), (1, .int x1)]) hx hb dX7_advancesWithout_3 rfl hl (by decide) rfl (fun ls hl => ?_)
  refine lv_iconst (v := (0 : Int32)) hx hb dX7_advancesWithout_4 (by decide) ?_
  refine lv_istore (lv' := [(4, .int (0 : Int32)), (3, .int (0 : Int32)), (2, .int (0 : Int32)), (0, .ref (ad 0)), (1, .int x1)]) hx hb dX7_advancesWithout_5 hl (by decide) rfl (fun ls hl => ?_)
  have hP : va_P g.1 az_cl (az_cM g ad V) _ := hP
  have hD : va_D A (az_cM g ad V) := hD
  exact hL7 az_fuel (0 : Int32) (0 : Int32) (0 : Int32) _ _ ls h hP hD hS (lv_sub hl [3, 4, 2, 1, 0] rfl)

def FX7_advancesFor (V : az_St) (x1 : Int32) : Option (Int32) := (FX7_ofBlock V x1 (4 : Int32)).bind (fun o3 => if (0 : Int32) ≤ (o3 + (2 : Int32)) - ((V 0) (3 : Int32).toNatClampNeg) then (some ((o3 + (2 : Int32)) - ((V 0) (3 : Int32).toNatClampNeg))) else (some ((0 : Int32))))
theorem inX7_advancesFor_RX7 : ∀ w ∈ wsX70, w ∈ wsX7_advancesFor := az_inr [7, 8, 9, 10, 11] (by decide +kernel)
set_option maxHeartbeats 4000000 in
set_option maxRecDepth 100000 in
theorem kX7_advancesFor (l : Launch) (g : az_G) (ad : Nat → Nat) (V : az_St) (x1 : Int32) (o : Int32) (h : FX7_advancesFor V x1 = some o) : az_I l yX7_advancesFor wsX7_advancesFor ({ frames := 1, cells := 0, slots := 0, locals := 22 } : Room) [.ref (ad 0), .int x1] g (az_cM g ad V) o (az_cM g ad V) := by
  refine az_body (cc := cX7_advancesFor) (maxL := 3) (ret := (some .int)) (Qc := fun A => az_QI g (az_cM g ad V) o A) (by decide +kernel) rfl (Nat.le_of_ble_eq_true rfl) ?_
  intro p e s m args below meth c A hx hb hr hts hown hml hlocks hA hK hP hD hS ls hl
  have hl : lv_has ls 3 [(0, .ref (ad 0)), (1, .int x1)] := hl
  unfold FX7_advancesFor at h
  refine lv_aload_n hx hb dX7_advancesFor_0 rfl (lv_at hl 0 rfl) ?_
  refine lv_iload_n hx hb dX7_advancesFor_1 rfl (lv_at hl 1 rfl) ?_
  refine lv_iconst (v := (4 : Int32)) hx hb dX7_advancesFor_2 (by decide) ?_
  obtain ⟨o3, hc3, h⟩ := az_bnd h
  refine az_callVi (w2 := az_cM g ad V) (As := [.int x1, .int (4 : Int32)]) (rest := []) ⟨hx, hb, hml, hown, hts⟩ hl.1 (kX7_ofBlock l g ad V x1 (4 : Int32) o3 hc3) (cwV 2 hts gX7_advancesFor_X7_ofBlock rfl rfl rfl (by decide +kernel) ⟨Nat.le_of_ble_eq_true rfl, Nat.le_of_ble_eq_true rfl⟩) rfl hK hP hD hS hA [0, 1, 2, 3] [] [0, 1, 2, 3] rfl rfl rfl rfl rfl (by decide) rfl rfl rfl 0 rfl rfl rfl (Nat.le_of_ble_eq_true rfl) dX7_advancesFor_3 ⟨Nat.zero_le _, Nat.zero_le _⟩ rfl (fun H locs hP hD hS => ?_)
  refine lv_iconst (v := (2 : Int32)) hx hb dX7_advancesFor_6 (by decide) ?_
  refine lv_iadd hx hb dX7_advancesFor_7 ?_
  refine lv_aload_n hx hb dX7_advancesFor_8 rfl (lv_at hl 0 rfl) ?_
  refine va_get (D := g.1) (ci := 7) (v := .ref (ad 1)) (C := RX7) (T := TX7) (N := 5) hx hb hts inX7_advancesFor_RX7 hown hK hP 0 rfl rfl 0 (Nat.le_of_ble_eq_true rfl) (hts _ (List.mem_of_getElem? (i := 1) rfl)) (fun _ h9 => h9) rfl dX7_advancesFor_9 ?_
  refine lv_iconst (v := (3 : Int32)) hx hb dX7_advancesFor_12 (by decide) ?_
  refine va_iald (D := g.1) (f := (V 0)) hx hb hK hP 1 0 rfl rfl (az_vin (by decide +kernel)) dX7_advancesFor_13 ?_
  refine lv_isub hx hb dX7_advancesFor_14 ?_
  refine lv_istore_n (lv' := [(2, .int ((o3 + (2 : Int32)) - ((V 0) (3 : Int32).toNatClampNeg))), (0, .ref (ad 0)), (1, .int x1)]) hx hb dX7_advancesFor_15 rfl hl (by decide) rfl (fun ls hl => ?_)
  refine lv_iload_n hx hb dX7_advancesFor_16 rfl (lv_at hl 0 rfl) ?_
  refine lv_if_ge (tgt := 24) hx hb dX7_advancesFor_17 (by decide) (fun c17 => ?_) (fun c17 => ?_)
  · replace h := az_pos c17 h
    refine lv_iload_n hx hb dX7_advancesFor_24 rfl (lv_at hl 0 rfl) ?_
    have hP : va_P g.1 az_cl (az_cM g ad V) _ := hP
    have hD : va_D A (az_cM g ad V) := hD
    rw [← Option.some.inj h]
    exact az_iret hx hb hr hlocks hK hP hD hS dX7_advancesFor_25
  · replace h := az_neg c17 h
    refine lv_iconst (v := (0 : Int32)) hx hb dX7_advancesFor_20 (by decide) ?_
    refine lv_goto (tgt := 25) hx hb dX7_advancesFor_21 (by decide) ?_
    have hP : va_P g.1 az_cl (az_cM g ad V) _ := hP
    have hD : va_D A (az_cM g ad V) := hD
    rw [← Option.some.inj h]
    exact az_iret hx hb hr hlocks hK hP hD hS dX7_advancesFor_25

def FX7_reclaimableBy_L11 : Nat → az_St → Int32 → Int32 → Int32 → Int32 → Option (Int32)
  | 0, _, _, _, _, _ => none
  | n + 1, V, x1, y2, y3, y4 => if (16 : Int32) * ((V 0) (0 : Int32).toNatClampNeg) ≤ y4 then (some (y3)) else ((FX7_isBlock V y4).bind (fun o29 => if o29 = (0 : Int32) then (FX7_reclaimableBy_L11 n V x1 y2 (y3 + (0 : Int32)) (y4 + (1 : Int32))) else ((FX7_ofBlock V y4 (0 : Int32)).bind (fun o39 => if o39 = (3 : Int32) then ((FX7_advancesFor V y4).bind (fun o49 => if y2 < o49 then (FX7_reclaimableBy_L11 n V x1 y2 (y3 + (0 : Int32)) (y4 + (1 : Int32))) else (FX7_reclaimableBy_L11 n V x1 y2 (y3 + (1 : Int32)) (y4 + (1 : Int32))))) else (FX7_reclaimableBy_L11 n V x1 y2 (y3 + (0 : Int32)) (y4 + (1 : Int32)))))))
theorem FX7_reclaimableBy_L11_s (n : Nat) (V : az_St) (x1 : Int32) (y2 : Int32) (y3 : Int32) (y4 : Int32) : FX7_reclaimableBy_L11 (n + 1) V x1 y2 y3 y4 = (if (16 : Int32) * ((V 0) (0 : Int32).toNatClampNeg) ≤ y4 then (some (y3)) else ((FX7_isBlock V y4).bind (fun o29 => if o29 = (0 : Int32) then (FX7_reclaimableBy_L11 n V x1 y2 (y3 + (0 : Int32)) (y4 + (1 : Int32))) else ((FX7_ofBlock V y4 (0 : Int32)).bind (fun o39 => if o39 = (3 : Int32) then ((FX7_advancesFor V y4).bind (fun o49 => if y2 < o49 then (FX7_reclaimableBy_L11 n V x1 y2 (y3 + (0 : Int32)) (y4 + (1 : Int32))) else (FX7_reclaimableBy_L11 n V x1 y2 (y3 + (1 : Int32)) (y4 + (1 : Int32))))) else (FX7_reclaimableBy_L11 n V x1 y2 (y3 + (0 : Int32)) (y4 + (1 : Int32)))))))) := rfl
def FX7_reclaimableBy (V : az_St) (x1 : Int32) : Option (Int32) := (FX7_advancesWithout V x1).bind (fun o2 => FX7_reclaimableBy_L11 az_fuel V x1 o2 (0 : Int32) (0 : Int32))
theorem inX7_reclaimableBy_RX7 : ∀ w ∈ wsX70, w ∈ wsX7_reclaimableBy := az_inr [38, 39, 40, 41, 42] (by decide +kernel)
set_option maxHeartbeats 4000000 in
set_option maxRecDepth 100000 in
theorem kX7_reclaimableBy (l : Launch) (g : az_G) (ad : Nat → Nat) (V : az_St) (x1 : Int32) (o : Int32) (h : FX7_reclaimableBy V x1 = some o) : az_I l yX7_reclaimableBy wsX7_reclaimableBy ({ frames := 4, cells := 0, slots := 0, locals := 88 } : Room) [.ref (ad 0), .int x1] g (az_cM g ad V) o (az_cM g ad V) := by
  refine az_body (cc := cX7_reclaimableBy) (maxL := 5) (ret := (some .int)) (Qc := fun A => az_QI g (az_cM g ad V) o A) (by decide +kernel) rfl (Nat.le_of_ble_eq_true rfl) ?_
  intro p e s m args below meth c A hx hb hr hts hown hml hlocks hA hK hP hD hS ls hl
  have hl : lv_has ls 5 [(0, .ref (ad 0)), (1, .int x1)] := hl
  unfold FX7_reclaimableBy at h
  have hL11 : ∀ (n : Nat) (y2 : Int32) (y3 : Int32) (y4 : Int32) (H : Heap) (locs : List Loc) (ls : Array Slot), FX7_reclaimableBy_L11 n V x1 y2 y3 y4 = some o → va_P g.1 az_cl (az_cM g ad V) H → va_D A (az_cM g ad V) → va_S A s.heap H locs → lv_has ls 5 [(0, .ref (ad 0)), (2, .int y2), (3, .int y3), (4, .int y4)] → W p l e ({ frames := 4, cells := 0, slots := 0, locals := 88 } : Room) s m args below meth c H locs 0 0 (MQ below (az_QI g (az_cM g ad V) o A) args s 0 0 A) (F0 m 11 ls []) := by
    intro n
    induction n with
    | zero => intro y2 y3 y4 H locs ls h; exact az_non h
    | succ n ih =>
      intro y2 y3 y4 H locs ls h hP hD hS hl
      rw [FX7_reclaimableBy_L11_s] at h
      refine lv_iload hx hb dX7_reclaimableBy_11 (lv_at hl 3 rfl) ?_
      refine lv_bipush (v := (16 : Int32)) hx hb dX7_reclaimableBy_13 (by decide) ?_
      refine lv_aload_n hx hb dX7_reclaimableBy_15 rfl (lv_at hl 0 rfl) ?_
      refine va_get (D := g.1) (ci := 7) (v := .ref (ad 1)) (C := RX7) (T := TX7) (N := 5) hx hb hts inX7_reclaimableBy_RX7 hown hK hP 0 rfl rfl 0 (Nat.le_of_ble_eq_true rfl) (hts _ (List.mem_of_getElem? (i := 1) rfl)) (fun _ h9 => h9) rfl dX7_reclaimableBy_16 ?_
      refine lv_iconst (v := (0 : Int32)) hx hb dX7_reclaimableBy_19 (by decide) ?_
      refine va_iald (D := g.1) (f := (V 0)) hx hb hK hP 1 0 rfl rfl (az_vin (by decide +kernel)) dX7_reclaimableBy_20 ?_
      refine lv_imul hx hb dX7_reclaimableBy_21 ?_
      refine lv_icmp_ge (tgt := 69) hx hb dX7_reclaimableBy_22 (by decide) (fun c22 => ?_) (fun c22 => ?_)
      · replace h := az_pos c22 h
        refine lv_iload_n hx hb dX7_reclaimableBy_69 rfl (lv_at hl 2 rfl) ?_
        have hP : va_P g.1 az_cl (az_cM g ad V) _ := hP
        have hD : va_D A (az_cM g ad V) := hD
        rw [← Option.some.inj h]
        exact az_iret hx hb hr hlocks hK hP hD hS dX7_reclaimableBy_70
      · replace h := az_neg c22 h
        refine lv_iload_n hx hb dX7_reclaimableBy_25 rfl (lv_at hl 2 rfl) ?_
        refine lv_aload_n hx hb dX7_reclaimableBy_26 rfl (lv_at hl 0 rfl) ?_
        refine lv_iload hx hb dX7_reclaimableBy_27 (lv_at hl 3 rfl) ?_
        obtain ⟨o29, hc29, h⟩ := az_bnd h
        refine az_callVi (w2 := az_cM g ad V) (As := [.int y4]) (rest := [.int y3]) ⟨hx, hb, hml, hown, hts⟩ hl.1 (kX7_isBlock l g ad V y4 o29 hc29) (cwV 1 hts gX7_reclaimableBy_X7_isBlock rfl rfl rfl (by decide +kernel) ⟨Nat.le_of_ble_eq_true rfl, Nat.le_of_ble_eq_true rfl⟩) rfl hK hP hD hS hA [0, 1, 2, 3] [] [0, 1, 2, 3] rfl rfl rfl rfl rfl (by decide) rfl rfl rfl 0 rfl rfl rfl (Nat.le_of_ble_eq_true rfl) dX7_reclaimableBy_29 ⟨Nat.zero_le _, Nat.zero_le _⟩ rfl (fun H locs hP hD hS => ?_)
        refine lv_if_eq (tgt := 60) hx hb dX7_reclaimableBy_32 (by decide) (fun c32 => ?_) (fun c32 => ?_)
        · replace h := az_pos c32 h
          refine lv_iconst (v := (0 : Int32)) hx hb dX7_reclaimableBy_60 (by decide) ?_
          refine lv_iadd hx hb dX7_reclaimableBy_61 ?_
          refine lv_istore_n (lv' := [(3, .int (y3 + (0 : Int32))), (0, .ref (ad 0)), (2, .int y2), (4, .int y4)]) hx hb dX7_reclaimableBy_62 rfl hl (by decide) rfl (fun ls hl => ?_)
          refine lv_iinc (v := y4 + (1 : Int32)) (lv' := [(4, .int (y4 + (1 : Int32))), (3, .int (y3 + (0 : Int32))), (0, .ref (ad 0)), (2, .int y2)]) hx hb dX7_reclaimableBy_63 hl (k := 3) rfl (rfl) (by decide) rfl (fun ls hl => ?_)
          refine lv_goto (tgt := 11) hx hb dX7_reclaimableBy_66 (by decide) ?_
          have hP : va_P g.1 az_cl (az_cM g ad V) _ := hP
          have hD : va_D A (az_cM g ad V) := hD
          exact ih y2 (y3 + (0 : Int32)) (y4 + (1 : Int32)) _ _ ls h hP hD hS (lv_sub hl [2, 3, 1, 0] rfl)
        · replace h := az_neg c32 h
          refine lv_aload_n hx hb dX7_reclaimableBy_35 rfl (lv_at hl 0 rfl) ?_
          refine lv_iload hx hb dX7_reclaimableBy_36 (lv_at hl 3 rfl) ?_
          refine lv_iconst (v := (0 : Int32)) hx hb dX7_reclaimableBy_38 (by decide) ?_
          obtain ⟨o39, hc39, h⟩ := az_bnd h
          refine az_callVi (w2 := az_cM g ad V) (As := [.int y4, .int (0 : Int32)]) (rest := [.int y3]) ⟨hx, hb, hml, hown, hts⟩ hl.1 (kX7_ofBlock l g ad V y4 (0 : Int32) o39 hc39) (cwV 2 hts gX7_reclaimableBy_X7_ofBlock rfl rfl rfl (by decide +kernel) ⟨Nat.le_of_ble_eq_true rfl, Nat.le_of_ble_eq_true rfl⟩) rfl hK hP hD hS hA [0, 1, 2, 3] [] [0, 1, 2, 3] rfl rfl rfl rfl rfl (by decide) rfl rfl rfl 0 rfl rfl rfl (Nat.le_of_ble_eq_true rfl) dX7_reclaimableBy_39 ⟨Nat.zero_le _, Nat.zero_le _⟩ rfl (fun H locs hP hD hS => ?_)
          refine lv_iconst (v := (3 : Int32)) hx hb dX7_reclaimableBy_42 (by decide) ?_
          refine lv_icmp_ne (tgt := 60) hx hb dX7_reclaimableBy_43 (by decide) (fun c43 => ?_) (fun c43 => ?_)
          · replace h := az_neg c43 h
            refine lv_iconst (v := (0 : Int32)) hx hb dX7_reclaimableBy_60 (by decide) ?_
            refine lv_iadd hx hb dX7_reclaimableBy_61 ?_
            refine lv_istore_n (lv' := [(3, .int (y3 + (0 : Int32))), (0, .ref (ad 0)), (2, .int y2), (4, .int y4)]) hx hb dX7_reclaimableBy_62 rfl hl (by decide) rfl (fun ls hl => ?_)
            refine lv_iinc (v := y4 + (1 : Int32)) (lv' := [(4, .int (y4 + (1 : Int32))), (3, .int (y3 + (0 : Int32))), (0, .ref (ad 0)), (2, .int y2)]) hx hb dX7_reclaimableBy_63 hl (k := 3) rfl (rfl) (by decide) rfl (fun ls hl => ?_)
            refine lv_goto (tgt := 11) hx hb dX7_reclaimableBy_66 (by decide) ?_
            have hP : va_P g.1 az_cl (az_cM g ad V) _ := hP
            have hD : va_D A (az_cM g ad V) := hD
            exact ih y2 (y3 + (0 : Int32)) (y4 + (1 : Int32)) _ _ ls h hP hD hS (lv_sub hl [2, 3, 1, 0] rfl)
          · replace h := az_pos c43 h
            refine lv_aload_n hx hb dX7_reclaimableBy_46 rfl (lv_at hl 0 rfl) ?_
            refine lv_iload hx hb dX7_reclaimableBy_47 (lv_at hl 3 rfl) ?_
            obtain ⟨o49, hc49, h⟩ := az_bnd h
            refine az_callVi (w2 := az_cM g ad V) (As := [.int y4]) (rest := [.int y3]) ⟨hx, hb, hml, hown, hts⟩ hl.1 (kX7_advancesFor l g ad V y4 o49 hc49) (cwV 1 hts gX7_reclaimableBy_X7_advancesFor rfl rfl rfl (by decide +kernel) ⟨Nat.le_of_ble_eq_true rfl, Nat.le_of_ble_eq_true rfl⟩) rfl hK hP hD hS hA [0, 1, 2, 3] [] [0, 1, 2, 3] rfl rfl rfl rfl rfl (by decide) rfl rfl rfl 0 rfl rfl rfl (Nat.le_of_ble_eq_true rfl) dX7_reclaimableBy_49 ⟨Nat.zero_le _, Nat.zero_le _⟩ rfl (fun H locs hP hD hS => ?_)
            refine lv_iload_n hx hb dX7_reclaimableBy_52 rfl (lv_at hl 1 rfl) ?_
            refine lv_icmp_gt (tgt := 60) hx hb dX7_reclaimableBy_53 (by decide) (fun c53 => ?_) (fun c53 => ?_)
            · replace h := az_pos c53 h
              refine lv_iconst (v := (0 : Int32)) hx hb dX7_reclaimableBy_60 (by decide) ?_
              refine lv_iadd hx hb dX7_reclaimableBy_61 ?_
              refine lv_istore_n (lv' := [(3, .int (y3 + (0 : Int32))), (0, .ref (ad 0)), (2, .int y2), (4, .int y4)]) hx hb dX7_reclaimableBy_62 rfl hl (by decide) rfl (fun ls hl => ?_)
              refine lv_iinc (v := y4 + (1 : Int32)) (lv' := [(4, .int (y4 + (1 : Int32))), (3, .int (y3 + (0 : Int32))), (0, .ref (ad 0)), (2, .int y2)]) hx hb dX7_reclaimableBy_63 hl (k := 3) rfl (rfl) (by decide) rfl (fun ls hl => ?_)
              refine lv_goto (tgt := 11) hx hb dX7_reclaimableBy_66 (by decide) ?_
              have hP : va_P g.1 az_cl (az_cM g ad V) _ := hP
              have hD : va_D A (az_cM g ad V) := hD
              exact ih y2 (y3 + (0 : Int32)) (y4 + (1 : Int32)) _ _ ls h hP hD hS (lv_sub hl [2, 3, 1, 0] rfl)
            · replace h := az_neg c53 h
              refine lv_iconst (v := (1 : Int32)) hx hb dX7_reclaimableBy_56 (by decide) ?_
              refine lv_goto (tgt := 61) hx hb dX7_reclaimableBy_57 (by decide) ?_
              refine lv_iadd hx hb dX7_reclaimableBy_61 ?_
              refine lv_istore_n (lv' := [(3, .int (y3 + (1 : Int32))), (0, .ref (ad 0)), (2, .int y2), (4, .int y4)]) hx hb dX7_reclaimableBy_62 rfl hl (by decide) rfl (fun ls hl => ?_)
              refine lv_iinc (v := y4 + (1 : Int32)) (lv' := [(4, .int (y4 + (1 : Int32))), (3, .int (y3 + (1 : Int32))), (0, .ref (ad 0)), (2, .int y2)]) hx hb dX7_reclaimableBy_63 hl (k := 3) rfl (rfl) (by decide) rfl (fun ls hl => ?_)
              refine lv_goto (tgt := 11) hx hb dX7_reclaimableBy_66 (by decide) ?_
              have hP : va_P g.1 az_cl (az_cM g ad V) _ := hP
              have hD : va_D A (az_cM g ad V) := hD
              exact ih y2 (y3 + (1 : Int32)) (y4 + (1 : Int32)) _ _ ls h hP hD hS (lv_sub hl [2, 3, 1, 0] rfl)
  refine lv_aload_n hx hb dX7_reclaimableBy_0 rfl (lv_at hl 0 rfl) ?_
  refine lv_iload_n hx hb dX7_reclaimableBy_1 rfl (lv_at hl 1 rfl) ?_
  obtain ⟨o2, hc2, h⟩ := az_bnd h
  refine az_callVi (w2 := az_cM g ad V) (As := [.int x1]) (rest := []) ⟨hx, hb, hml, hown, hts⟩ hl.1 (kX7_advancesWithout l g ad V x1 o2 hc2) (cwV 1 hts gX7_reclaimableBy_X7_advancesWithout rfl rfl rfl (by decide +kernel) ⟨Nat.le_of_ble_eq_true rfl, Nat.le_of_ble_eq_true rfl⟩) rfl hK hP hD hS hA [0, 1, 2, 3] [] [0, 1, 2, 3] rfl rfl rfl rfl rfl (by decide) rfl rfl rfl 0 rfl rfl rfl (Nat.le_of_ble_eq_true rfl) dX7_reclaimableBy_2 ⟨Nat.zero_le _, Nat.zero_le _⟩ rfl (fun H locs hP hD hS => ?_)
  refine lv_istore_n (lv' := [(2, .int o2), (0, .ref (ad 0)), (1, .int x1)]) hx hb dX7_reclaimableBy_5 rfl hl (by decide) rfl (fun ls hl => ?_)
  refine lv_iconst (v := (0 : Int32)) hx hb dX7_reclaimableBy_6 (by decide) ?_
  refine lv_istore_n (lv' := [(3, .int (0 : Int32)), (2, .int o2), (0, .ref (ad 0)), (1, .int x1)]) hx hb dX7_reclaimableBy_7 rfl hl (by decide) rfl (fun ls hl => ?_)
  refine lv_iconst (v := (0 : Int32)) hx hb dX7_reclaimableBy_8 (by decide) ?_
  refine lv_istore (lv' := [(4, .int (0 : Int32)), (3, .int (0 : Int32)), (2, .int o2), (0, .ref (ad 0)), (1, .int x1)]) hx hb dX7_reclaimableBy_9 hl (by decide) rfl (fun ls hl => ?_)
  have hP : va_P g.1 az_cl (az_cM g ad V) _ := hP
  have hD : va_D A (az_cM g ad V) := hD
  exact hL11 az_fuel o2 (0 : Int32) (0 : Int32) _ _ ls h hP hD hS (lv_sub hl [3, 2, 1, 0] rfl)

def FX7_reclaimableWithout (V : az_St) (x1 : Int32) : Option (Int32 × (Nat → Int32)) := if x1 = (-1 : Int32) then (az_lt (upd (V 2) 1 (0 : Int32)) (fun u18 => if u18 1 ≤ (0 : Int32) then ((FX7_reclaimableBy (va_up V 2 u18) x1).bind (fun o34 => some (o34, u18))) else (some ((0 : Int32), u18)))) else ((FX7_isReader x1).bind (fun o7 => if o7 = (0 : Int32) then (az_lt (upd (V 2) 1 (1 : Int32)) (fun u18 => if u18 1 ≤ (0 : Int32) then ((FX7_reclaimableBy (va_up V 2 u18) x1).bind (fun o34 => some (o34, u18))) else (some ((0 : Int32), u18)))) else (az_lt (upd (V 2) 1 (0 : Int32)) (fun u18 => if u18 1 ≤ (0 : Int32) then ((FX7_reclaimableBy (va_up V 2 u18) x1).bind (fun o34 => some (o34, u18))) else (some ((0 : Int32), u18))))))
theorem inX7_reclaimableWithout_RX7 : ∀ w ∈ wsX70, w ∈ wsX7_reclaimableWithout := az_inr [47, 48, 49, 50, 51] (by decide +kernel)
set_option maxHeartbeats 4000000 in
set_option maxRecDepth 100000 in
theorem kX7_reclaimableWithout (l : Launch) (g : az_G) (ad : Nat → Nat) (V : az_St) (x1 : Int32) (o : Int32 × (Nat → Int32)) (h : FX7_reclaimableWithout V x1 = some o) : az_I l yX7_reclaimableWithout wsX7_reclaimableWithout ({ frames := 5, cells := 0, slots := 0, locals := 112 } : Room) [.ref (ad 0), .int x1] g (az_cM g ad V) o.1 (az_cM g ad (va_up V 2 o.2)) := by
  refine az_body (cc := cX7_reclaimableWithout) (maxL := 2) (ret := (some .int)) (Qc := fun A => az_QI g (az_cM g ad (va_up V 2 o.2)) o.1 A) (by decide +kernel) rfl (Nat.le_of_ble_eq_true rfl) ?_
  intro p e s m args below meth c A hx hb hr hts hown hml hlocks hA hK hP hD hS ls hl
  have hl : lv_has ls 2 [(0, .ref (ad 0)), (1, .int x1)] := hl
  unfold FX7_reclaimableWithout at h
  refine lv_aload_n hx hb dX7_reclaimableWithout_0 rfl (lv_at hl 0 rfl) ?_
  refine lv_iload_n hx hb dX7_reclaimableWithout_1 rfl (lv_at hl 1 rfl) ?_
  refine lv_iconst (v := (-1 : Int32)) hx hb dX7_reclaimableWithout_2 (by decide) ?_
  refine lv_icmp_eq (tgt := 13) hx hb dX7_reclaimableWithout_3 (by decide) (fun c3 => ?_) (fun c3 => ?_)
  · replace h := az_pos c3 h
    refine lv_iconst (v := (0 : Int32)) hx hb dX7_reclaimableWithout_13 (by decide) ?_
    refine lv_goto (tgt := 18) hx hb dX7_reclaimableWithout_14 (by decide) ?_
    refine va_put (D := g.1) (ci := 7) (v := .int (0 : Int32)) (ty := .int) (C := RX7) (T := TX7) (N := 5) hx hb hts inX7_reclaimableWithout_RX7 tyX7 tyX7_ok nmX7 hown hK hP hD hS 0 rfl rfl 3 (Nat.le_of_ble_eq_true rfl) (hts _ (List.mem_of_getElem? (i := 1) rfl)) (fun _ h9 => h9) rfl (by decide +kernel) rfl rfl (Nat.le_of_ble_eq_true rfl) dX7_reclaimableWithout_18 (fun H locs hP hD hS => ?_)
    obtain ⟨u18, e18⟩ : ∃ w : Nat → Int32, w = upd (V 2) 1 (0 : Int32) := ⟨_, rfl⟩
    have hP : va_P g.1 az_cl (az_cM g ad (va_up V 2 u18)) H := by rw [e18]; exact hP
    have hD : va_D A (az_cM g ad (va_up V 2 u18)) := by rw [e18]; exact hD
    replace h := az_let e18 h
    refine lv_aload_n hx hb dX7_reclaimableWithout_21 rfl (lv_at hl 0 rfl) ?_
    refine va_get (D := g.1) (ci := 7) (v := .int (u18 1)) (C := RX7) (T := TX7) (N := 5) hx hb hts inX7_reclaimableWithout_RX7 hown hK hP 0 rfl rfl 3 (Nat.le_of_ble_eq_true rfl) (hts _ (List.mem_of_getElem? (i := 1) rfl)) (fun _ h9 => h9) rfl dX7_reclaimableWithout_22 ?_
    refine lv_if_le (tgt := 32) hx hb dX7_reclaimableWithout_25 (by decide) (fun c25 => ?_) (fun c25 => ?_)
    · replace h := az_pos c25 h
      refine lv_aload_n hx hb dX7_reclaimableWithout_32 rfl (lv_at hl 0 rfl) ?_
      refine lv_iload_n hx hb dX7_reclaimableWithout_33 rfl (lv_at hl 1 rfl) ?_
      obtain ⟨o34, hc34, h⟩ := az_bnd h
      refine az_callVi (w2 := az_cM g ad (va_up V 2 u18)) (As := [.int x1]) (rest := []) ⟨hx, hb, hml, hown, hts⟩ hl.1 (kX7_reclaimableBy l g ad (va_up V 2 u18) x1 o34 hc34) (cwV 1 hts gX7_reclaimableWithout_X7_reclaimableBy rfl rfl rfl (by decide +kernel) ⟨Nat.le_of_ble_eq_true rfl, Nat.le_of_ble_eq_true rfl⟩) rfl hK hP hD hS hA [0, 1, 2, 3] [] [0, 1, 2, 3] rfl rfl rfl rfl rfl (by decide) rfl rfl rfl 0 rfl rfl rfl (Nat.le_of_ble_eq_true rfl) dX7_reclaimableWithout_34 ⟨Nat.zero_le _, Nat.zero_le _⟩ rfl (fun H locs hP hD hS => ?_)
      have hP : va_P g.1 az_cl (az_cM g ad (va_up V 2 u18)) _ := hP
      have hD : va_D A (az_cM g ad (va_up V 2 u18)) := hD
      rw [← Option.some.inj h]
      exact az_iret hx hb hr hlocks hK hP hD hS dX7_reclaimableWithout_37
    · replace h := az_neg c25 h
      refine lv_iconst (v := (0 : Int32)) hx hb dX7_reclaimableWithout_28 (by decide) ?_
      refine lv_goto (tgt := 37) hx hb dX7_reclaimableWithout_29 (by decide) ?_
      have hP : va_P g.1 az_cl (az_cM g ad (va_up V 2 u18)) _ := hP
      have hD : va_D A (az_cM g ad (va_up V 2 u18)) := hD
      rw [← Option.some.inj h]
      exact az_iret hx hb hr hlocks hK hP hD hS dX7_reclaimableWithout_37
  · replace h := az_neg c3 h
    refine lv_iload_n hx hb dX7_reclaimableWithout_6 rfl (lv_at hl 1 rfl) ?_
    obtain ⟨o7, hc7, h⟩ := az_bnd h
    refine az_callS0 (As := [.int x1]) (rest := [.ref (ad 0)]) ⟨hx, hb, hml, hown, hts⟩ hl.1 (kX7_isReader l g x1 o7 hc7) (va_cwS 1 hts gX7_reclaimableWithout_X7_isReader rfl rfl rfl (by decide +kernel) ⟨Nat.le_of_ble_eq_true rfl, Nat.le_of_ble_eq_true rfl⟩) rfl hK hP hS hA (Nat.le_of_ble_eq_true rfl) dX7_reclaimableWithout_7 ⟨Nat.zero_le _, Nat.zero_le _⟩ rfl (fun H locs hP hS => ?_)
    refine lv_if_eq (tgt := 17) hx hb dX7_reclaimableWithout_10 (by decide) (fun c10 => ?_) (fun c10 => ?_)
    · replace h := az_pos c10 h
      refine lv_iconst (v := (1 : Int32)) hx hb dX7_reclaimableWithout_17 (by decide) ?_
      refine va_put (D := g.1) (ci := 7) (v := .int (1 : Int32)) (ty := .int) (C := RX7) (T := TX7) (N := 5) hx hb hts inX7_reclaimableWithout_RX7 tyX7 tyX7_ok nmX7 hown hK hP hD hS 0 rfl rfl 3 (Nat.le_of_ble_eq_true rfl) (hts _ (List.mem_of_getElem? (i := 1) rfl)) (fun _ h9 => h9) rfl (by decide +kernel) rfl rfl (Nat.le_of_ble_eq_true rfl) dX7_reclaimableWithout_18 (fun H locs hP hD hS => ?_)
      obtain ⟨u18, e18⟩ : ∃ w : Nat → Int32, w = upd (V 2) 1 (1 : Int32) := ⟨_, rfl⟩
      have hP : va_P g.1 az_cl (az_cM g ad (va_up V 2 u18)) H := by rw [e18]; exact hP
      have hD : va_D A (az_cM g ad (va_up V 2 u18)) := by rw [e18]; exact hD
      replace h := az_let e18 h
      refine lv_aload_n hx hb dX7_reclaimableWithout_21 rfl (lv_at hl 0 rfl) ?_
      refine va_get (D := g.1) (ci := 7) (v := .int (u18 1)) (C := RX7) (T := TX7) (N := 5) hx hb hts inX7_reclaimableWithout_RX7 hown hK hP 0 rfl rfl 3 (Nat.le_of_ble_eq_true rfl) (hts _ (List.mem_of_getElem? (i := 1) rfl)) (fun _ h9 => h9) rfl dX7_reclaimableWithout_22 ?_
      refine lv_if_le (tgt := 32) hx hb dX7_reclaimableWithout_25 (by decide) (fun c25 => ?_) (fun c25 => ?_)
      · replace h := az_pos c25 h
        refine lv_aload_n hx hb dX7_reclaimableWithout_32 rfl (lv_at hl 0 rfl) ?_
        refine lv_iload_n hx hb dX7_reclaimableWithout_33 rfl (lv_at hl 1 rfl) ?_
        obtain ⟨o34, hc34, h⟩ := az_bnd h
        refine az_callVi (w2 := az_cM g ad (va_up V 2 u18)) (As := [.int x1]) (rest := []) ⟨hx, hb, hml, hown, hts⟩ hl.1 (kX7_reclaimableBy l g ad (va_up V 2 u18) x1 o34 hc34) (cwV 1 hts gX7_reclaimableWithout_X7_reclaimableBy rfl rfl rfl (by decide +kernel) ⟨Nat.le_of_ble_eq_true rfl, Nat.le_of_ble_eq_true rfl⟩) rfl hK hP hD hS hA [0, 1, 2, 3] [] [0, 1, 2, 3] rfl rfl rfl rfl rfl (by decide) rfl rfl rfl 0 rfl rfl rfl (Nat.le_of_ble_eq_true rfl) dX7_reclaimableWithout_34 ⟨Nat.zero_le _, Nat.zero_le _⟩ rfl (fun H locs hP hD hS => ?_)
        have hP : va_P g.1 az_cl (az_cM g ad (va_up V 2 u18)) _ := hP
        have hD : va_D A (az_cM g ad (va_up V 2 u18)) := hD
        rw [← Option.some.inj h]
        exact az_iret hx hb hr hlocks hK hP hD hS dX7_reclaimableWithout_37
      · replace h := az_neg c25 h
        refine lv_iconst (v := (0 : Int32)) hx hb dX7_reclaimableWithout_28 (by decide) ?_
        refine lv_goto (tgt := 37) hx hb dX7_reclaimableWithout_29 (by decide) ?_
        have hP : va_P g.1 az_cl (az_cM g ad (va_up V 2 u18)) _ := hP
        have hD : va_D A (az_cM g ad (va_up V 2 u18)) := hD
        rw [← Option.some.inj h]
        exact az_iret hx hb hr hlocks hK hP hD hS dX7_reclaimableWithout_37
    · replace h := az_neg c10 h
      refine lv_iconst (v := (0 : Int32)) hx hb dX7_reclaimableWithout_13 (by decide) ?_
      refine lv_goto (tgt := 18) hx hb dX7_reclaimableWithout_14 (by decide) ?_
      refine va_put (D := g.1) (ci := 7) (v := .int (0 : Int32)) (ty := .int) (C := RX7) (T := TX7) (N := 5) hx hb hts inX7_reclaimableWithout_RX7 tyX7 tyX7_ok nmX7 hown hK hP hD hS 0 rfl rfl 3 (Nat.le_of_ble_eq_true rfl) (hts _ (List.mem_of_getElem? (i := 1) rfl)) (fun _ h9 => h9) rfl (by decide +kernel) rfl rfl (Nat.le_of_ble_eq_true rfl) dX7_reclaimableWithout_18 (fun H locs hP hD hS => ?_)
      obtain ⟨u18, e18⟩ : ∃ w : Nat → Int32, w = upd (V 2) 1 (0 : Int32) := ⟨_, rfl⟩
      have hP : va_P g.1 az_cl (az_cM g ad (va_up V 2 u18)) H := by rw [e18]; exact hP
      have hD : va_D A (az_cM g ad (va_up V 2 u18)) := by rw [e18]; exact hD
      replace h := az_let e18 h
      refine lv_aload_n hx hb dX7_reclaimableWithout_21 rfl (lv_at hl 0 rfl) ?_
      refine va_get (D := g.1) (ci := 7) (v := .int (u18 1)) (C := RX7) (T := TX7) (N := 5) hx hb hts inX7_reclaimableWithout_RX7 hown hK hP 0 rfl rfl 3 (Nat.le_of_ble_eq_true rfl) (hts _ (List.mem_of_getElem? (i := 1) rfl)) (fun _ h9 => h9) rfl dX7_reclaimableWithout_22 ?_
      refine lv_if_le (tgt := 32) hx hb dX7_reclaimableWithout_25 (by decide) (fun c25 => ?_) (fun c25 => ?_)
      · replace h := az_pos c25 h
        refine lv_aload_n hx hb dX7_reclaimableWithout_32 rfl (lv_at hl 0 rfl) ?_
        refine lv_iload_n hx hb dX7_reclaimableWithout_33 rfl (lv_at hl 1 rfl) ?_
        obtain ⟨o34, hc34, h⟩ := az_bnd h
        refine az_callVi (w2 := az_cM g ad (va_up V 2 u18)) (As := [.int x1]) (rest := []) ⟨hx, hb, hml, hown, hts⟩ hl.1 (kX7_reclaimableBy l g ad (va_up V 2 u18) x1 o34 hc34) (cwV 1 hts gX7_reclaimableWithout_X7_reclaimableBy rfl rfl rfl (by decide +kernel) ⟨Nat.le_of_ble_eq_true rfl, Nat.le_of_ble_eq_true rfl⟩) rfl hK hP hD hS hA [0, 1, 2, 3] [] [0, 1, 2, 3] rfl rfl rfl rfl rfl (by decide) rfl rfl rfl 0 rfl rfl rfl (Nat.le_of_ble_eq_true rfl) dX7_reclaimableWithout_34 ⟨Nat.zero_le _, Nat.zero_le _⟩ rfl (fun H locs hP hD hS => ?_)
        have hP : va_P g.1 az_cl (az_cM g ad (va_up V 2 u18)) _ := hP
        have hD : va_D A (az_cM g ad (va_up V 2 u18)) := hD
        rw [← Option.some.inj h]
        exact az_iret hx hb hr hlocks hK hP hD hS dX7_reclaimableWithout_37
      · replace h := az_neg c25 h
        refine lv_iconst (v := (0 : Int32)) hx hb dX7_reclaimableWithout_28 (by decide) ?_
        refine lv_goto (tgt := 37) hx hb dX7_reclaimableWithout_29 (by decide) ?_
        have hP : va_P g.1 az_cl (az_cM g ad (va_up V 2 u18)) _ := hP
        have hD : va_D A (az_cM g ad (va_up V 2 u18)) := hD
        rw [← Option.some.inj h]
        exact az_iret hx hb hr hlocks hK hP hD hS dX7_reclaimableWithout_37

def FX7_costliestReader_L15 : Nat → az_St → (Nat → Int32) → Int32 → Int32 → Int32 → Option (Int32 × (Nat → Int32))
  | 0, _, _, _, _, _ => none
  | n + 1, V, wV2, y1, y2, y3 => if (6 : Int32) ≤ y3 then (some (y1, wV2)) else ((FX7_reclaimableBy (va_up V 2 wV2) y3).bind (fun o23 => if y2 < o23 then (FX7_costliestReader_L15 n V wV2 y3 o23 (y3 + (1 : Int32))) else (FX7_costliestReader_L15 n V wV2 y1 y2 (y3 + (1 : Int32)))))
theorem FX7_costliestReader_L15_s (n : Nat) (V : az_St) (wV2 : Nat → Int32) (y1 : Int32) (y2 : Int32) (y3 : Int32) : FX7_costliestReader_L15 (n + 1) V wV2 y1 y2 y3 = (if (6 : Int32) ≤ y3 then (some (y1, wV2)) else ((FX7_reclaimableBy (va_up V 2 wV2) y3).bind (fun o23 => if y2 < o23 then (FX7_costliestReader_L15 n V wV2 y3 o23 (y3 + (1 : Int32))) else (FX7_costliestReader_L15 n V wV2 y1 y2 (y3 + (1 : Int32)))))) := rfl
def FX7_costliestReader (V : az_St) : Option (Int32 × (Nat → Int32)) := az_lt (upd (V 2) 1 (0 : Int32)) (fun u2 => (FX7_reclaimableBy (va_up V 2 u2) (-1 : Int32)).bind (fun o9 => FX7_costliestReader_L15 az_fuel V u2 (-1 : Int32) o9 (0 : Int32)))
theorem inX7_costliestReader_RX7 : ∀ w ∈ wsX70, w ∈ wsX7_costliestReader := az_inr [43, 44, 45, 46, 47] (by decide +kernel)
set_option maxHeartbeats 4000000 in
set_option maxRecDepth 100000 in
theorem kX7_costliestReader (l : Launch) (g : az_G) (ad : Nat → Nat) (V : az_St) (o : Int32 × (Nat → Int32)) (h : FX7_costliestReader V = some o) : az_I l yX7_costliestReader wsX7_costliestReader ({ frames := 5, cells := 0, slots := 0, locals := 112 } : Room) [.ref (ad 0)] g (az_cM g ad V) o.1 (az_cM g ad (va_up V 2 o.2)) := by
  refine az_body (cc := cX7_costliestReader) (maxL := 5) (ret := (some .int)) (Qc := fun A => az_QI g (az_cM g ad (va_up V 2 o.2)) o.1 A) (by decide +kernel) rfl (Nat.le_of_ble_eq_true rfl) ?_
  intro p e s m args below meth c A hx hb hr hts hown hml hlocks hA hK hP hD hS ls hl
  have hl : lv_has ls 5 [(0, .ref (ad 0))] := hl
  unfold FX7_costliestReader at h
  have hL15 : ∀ (n : Nat) (wV2 : Nat → Int32) (y1 : Int32) (y2 : Int32) (y3 : Int32) (H : Heap) (locs : List Loc) (ls : Array Slot), FX7_costliestReader_L15 n V wV2 y1 y2 y3 = some o → va_P g.1 az_cl (az_cM g ad (va_up V 2 wV2)) H → va_D A (az_cM g ad (va_up V 2 wV2)) → va_S A s.heap H locs → lv_has ls 5 [(0, .ref (ad 0)), (1, .int y1), (2, .int y2), (3, .int y3)] → W p l e ({ frames := 5, cells := 0, slots := 0, locals := 112 } : Room) s m args below meth c H locs 0 0 (MQ below (az_QI g (az_cM g ad (va_up V 2 o.2)) o.1 A) args s 0 0 A) (F0 m 15 ls []) := by
    intro n
    induction n with
    | zero => intro wV2 y1 y2 y3 H locs ls h; exact az_non h
    | succ n ih =>
      intro wV2 y1 y2 y3 H locs ls h hP hD hS hl
      rw [FX7_costliestReader_L15_s] at h
      refine lv_iload_n hx hb dX7_costliestReader_15 rfl (lv_at hl 3 rfl) ?_
      refine lv_bipush (v := (6 : Int32)) hx hb dX7_costliestReader_16 (by decide) ?_
      refine lv_icmp_ge (tgt := 48) hx hb dX7_costliestReader_18 (by decide) (fun c18 => ?_) (fun c18 => ?_)
      · replace h := az_pos c18 h
        refine lv_iload_n hx hb dX7_costliestReader_48 rfl (lv_at hl 1 rfl) ?_
        have hP : va_P g.1 az_cl (az_cM g ad (va_up V 2 wV2)) _ := hP
        have hD : va_D A (az_cM g ad (va_up V 2 wV2)) := hD
        rw [← Option.some.inj h]
        exact az_iret hx hb hr hlocks hK hP hD hS dX7_costliestReader_49
      · replace h := az_neg c18 h
        refine lv_aload_n hx hb dX7_costliestReader_21 rfl (lv_at hl 0 rfl) ?_
        refine lv_iload_n hx hb dX7_costliestReader_22 rfl (lv_at hl 3 rfl) ?_
        obtain ⟨o23, hc23, h⟩ := az_bnd h
        refine az_callVi (w2 := az_cM g ad (va_up V 2 wV2)) (As := [.int y3]) (rest := []) ⟨hx, hb, hml, hown, hts⟩ hl.1 (kX7_reclaimableBy l g ad (va_up V 2 wV2) y3 o23 hc23) (cwV 1 hts gX7_costliestReader_X7_reclaimableBy rfl rfl rfl (by decide +kernel) ⟨Nat.le_of_ble_eq_true rfl, Nat.le_of_ble_eq_true rfl⟩) rfl hK hP hD hS hA [0, 1, 2, 3] [] [0, 1, 2, 3] rfl rfl rfl rfl rfl (by decide) rfl rfl rfl 0 rfl rfl rfl (Nat.le_of_ble_eq_true rfl) dX7_costliestReader_23 ⟨Nat.zero_le _, Nat.zero_le _⟩ rfl (fun H locs hP hD hS => ?_)
        refine lv_istore (lv' := [(4, .int o23), (0, .ref (ad 0)), (1, .int y1), (2, .int y2), (3, .int y3)]) hx hb dX7_costliestReader_26 hl (by decide) rfl (fun ls hl => ?_)
        refine lv_iload hx hb dX7_costliestReader_28 (lv_at hl 0 rfl) ?_
        refine lv_iload_n hx hb dX7_costliestReader_30 rfl (lv_at hl 3 rfl) ?_
        refine lv_icmp_gt (tgt := 37) hx hb dX7_costliestReader_31 (by decide) (fun c31 => ?_) (fun c31 => ?_)
        · replace h := az_pos c31 h
          refine lv_iload_n hx hb dX7_costliestReader_37 rfl (lv_at hl 4 rfl) ?_
          refine lv_istore_n (lv' := [(1, .int y3), (4, .int o23), (0, .ref (ad 0)), (2, .int y2), (3, .int y3)]) hx hb dX7_costliestReader_38 rfl hl (by decide) rfl (fun ls hl => ?_)
          refine lv_iload hx hb dX7_costliestReader_39 (lv_at hl 1 rfl) ?_
          refine lv_istore_n (lv' := [(2, .int o23), (1, .int y3), (4, .int o23), (0, .ref (ad 0)), (3, .int y3)]) hx hb dX7_costliestReader_41 rfl hl (by decide) rfl (fun ls hl => ?_)
          refine lv_iinc (v := y3 + (1 : Int32)) (lv' := [(3, .int (y3 + (1 : Int32))), (2, .int o23), (1, .int y3), (4, .int o23), (0, .ref (ad 0))]) hx hb dX7_costliestReader_42 hl (k := 4) rfl (rfl) (by decide) rfl (fun ls hl => ?_)
          refine lv_goto (tgt := 15) hx hb dX7_costliestReader_45 (by decide) ?_
          have hP : va_P g.1 az_cl (az_cM g ad (va_up V 2 wV2)) _ := hP
          have hD : va_D A (az_cM g ad (va_up V 2 wV2)) := hD
          exact ih wV2 y3 o23 (y3 + (1 : Int32)) _ _ ls h hP hD hS (lv_sub hl [4, 2, 1, 0] rfl)
        · replace h := az_neg c31 h
          refine lv_goto (tgt := 42) hx hb dX7_costliestReader_34 (by decide) ?_
          refine lv_iinc (v := y3 + (1 : Int32)) (lv' := [(3, .int (y3 + (1 : Int32))), (4, .int o23), (0, .ref (ad 0)), (1, .int y1), (2, .int y2)]) hx hb dX7_costliestReader_42 hl (k := 4) rfl (rfl) (by decide) rfl (fun ls hl => ?_)
          refine lv_goto (tgt := 15) hx hb dX7_costliestReader_45 (by decide) ?_
          have hP : va_P g.1 az_cl (az_cM g ad (va_up V 2 wV2)) _ := hP
          have hD : va_D A (az_cM g ad (va_up V 2 wV2)) := hD
          exact ih wV2 y1 y2 (y3 + (1 : Int32)) _ _ ls h hP hD hS (lv_sub hl [2, 3, 4, 0] rfl)
  refine lv_aload_n hx hb dX7_costliestReader_0 rfl (lv_at hl 0 rfl) ?_
  refine lv_iconst (v := (0 : Int32)) hx hb dX7_costliestReader_1 (by decide) ?_
  refine va_put (D := g.1) (ci := 7) (v := .int (0 : Int32)) (ty := .int) (C := RX7) (T := TX7) (N := 5) hx hb hts inX7_costliestReader_RX7 tyX7 tyX7_ok nmX7 hown hK hP hD hS 0 rfl rfl 3 (Nat.le_of_ble_eq_true rfl) (hts _ (List.mem_of_getElem? (i := 1) rfl)) (fun _ h9 => h9) rfl (by decide +kernel) rfl rfl (Nat.le_of_ble_eq_true rfl) dX7_costliestReader_2 (fun H locs hP hD hS => ?_)
  obtain ⟨u2, e2⟩ : ∃ w : Nat → Int32, w = upd (V 2) 1 (0 : Int32) := ⟨_, rfl⟩
  have hP : va_P g.1 az_cl (az_cM g ad (va_up V 2 u2)) H := by rw [e2]; exact hP
  have hD : va_D A (az_cM g ad (va_up V 2 u2)) := by rw [e2]; exact hD
  replace h := az_let e2 h
  refine lv_iconst (v := (-1 : Int32)) hx hb dX7_costliestReader_5 (by decide) ?_
  refine lv_istore_n (lv' := [(1, .int (-1 : Int32)), (0, .ref (ad 0))]) hx hb dX7_costliestReader_6 rfl hl (by decide) rfl (fun ls hl => ?_)
  refine lv_aload_n hx hb dX7_costliestReader_7 rfl (lv_at hl 1 rfl) ?_
  refine lv_iconst (v := (-1 : Int32)) hx hb dX7_costliestReader_8 (by decide) ?_
  obtain ⟨o9, hc9, h⟩ := az_bnd h
  refine az_callVi (w2 := az_cM g ad (va_up V 2 u2)) (As := [.int (-1 : Int32)]) (rest := []) ⟨hx, hb, hml, hown, hts⟩ hl.1 (kX7_reclaimableBy l g ad (va_up V 2 u2) (-1 : Int32) o9 hc9) (cwV 1 hts gX7_costliestReader_X7_reclaimableBy rfl rfl rfl (by decide +kernel) ⟨Nat.le_of_ble_eq_true rfl, Nat.le_of_ble_eq_true rfl⟩) rfl hK hP hD hS hA [0, 1, 2, 3] [] [0, 1, 2, 3] rfl rfl rfl rfl rfl (by decide) rfl rfl rfl 0 rfl rfl rfl (Nat.le_of_ble_eq_true rfl) dX7_costliestReader_9 ⟨Nat.zero_le _, Nat.zero_le _⟩ rfl (fun H locs hP hD hS => ?_)
  refine lv_istore_n (lv' := [(2, .int o9), (1, .int (-1 : Int32)), (0, .ref (ad 0))]) hx hb dX7_costliestReader_12 rfl hl (by decide) rfl (fun ls hl => ?_)
  refine lv_iconst (v := (0 : Int32)) hx hb dX7_costliestReader_13 (by decide) ?_
  refine lv_istore_n (lv' := [(3, .int (0 : Int32)), (2, .int o9), (1, .int (-1 : Int32)), (0, .ref (ad 0))]) hx hb dX7_costliestReader_14 rfl hl (by decide) rfl (fun ls hl => ?_)
  have hP : va_P g.1 az_cl (az_cM g ad (va_up V 2 u2)) _ := hP
  have hD : va_D A (az_cM g ad (va_up V 2 u2)) := hD
  exact hL15 az_fuel u2 (-1 : Int32) o9 (0 : Int32) _ _ ls h hP hD hS (lv_sub hl [3, 2, 1, 0] rfl)

def FX7_advance (V : az_St) : Option (Int32 × (Nat → Int32) × (Nat → Int32) × (Nat → Int32)) := (FX7_blocking V).bind (fun o2 => if o2 = (0 : Int32) then (az_lt (upd (V 2) 1 (0 : Int32)) (fun u13 => if u13 1 ≤ (0 : Int32) then ((FX7_keeps (va_up V 2 u13)).bind (fun o26 => az_lt (upd (V 0) (3 : Int32).toNatClampNeg (((V 0) (3 : Int32).toNatClampNeg) + (1 : Int32))) (fun u38 => az_lt (upd u38 (5 : Int32).toNatClampNeg (u38 (4 : Int32).toNatClampNeg)) (fun u50 => some (u50 (3 : Int32).toNatClampNeg, u50, o26.1, o26.2))))) else (some ((0 : Int32), (V 0), (V 1), u13)))) else (az_lt (upd (V 2) 1 (1 : Int32)) (fun u13 => if u13 1 ≤ (0 : Int32) then ((FX7_keeps (va_up V 2 u13)).bind (fun o26 => az_lt (upd (V 0) (3 : Int32).toNatClampNeg (((V 0) (3 : Int32).toNatClampNeg) + (1 : Int32))) (fun u38 => az_lt (upd u38 (5 : Int32).toNatClampNeg (u38 (4 : Int32).toNatClampNeg)) (fun u50 => some (u50 (3 : Int32).toNatClampNeg, u50, o26.1, o26.2))))) else (some ((0 : Int32), (V 0), (V 1), u13)))))
theorem inX7_advance_RX7 : ∀ w ∈ wsX70, w ∈ wsX7_advance := az_inr [26, 27, 28, 29, 30] (by decide +kernel)
set_option maxHeartbeats 4000000 in
set_option maxRecDepth 100000 in
theorem kX7_advance (l : Launch) (g : az_G) (ad : Nat → Nat) (V : az_St) (o : Int32 × (Nat → Int32) × (Nat → Int32) × (Nat → Int32)) (h : FX7_advance V = some o) : az_I l yX7_advance wsX7_advance ({ frames := 4, cells := 0, slots := 0, locals := 86 } : Room) [.ref (ad 0)] g (az_cM g ad V) o.1 (az_cM g ad (va_up (va_up (va_up V 0 o.2.1) 1 o.2.2.1) 2 o.2.2.2)) := by
  refine az_body (cc := cX7_advance) (maxL := 1) (ret := (some .int)) (Qc := fun A => az_QI g (az_cM g ad (va_up (va_up (va_up V 0 o.2.1) 1 o.2.2.1) 2 o.2.2.2)) o.1 A) (by decide +kernel) rfl (Nat.le_of_ble_eq_true rfl) ?_
  intro p e s m args below meth c A hx hb hr hts hown hml hlocks hA hK hP hD hS ls hl
  have hl : lv_has ls 1 [(0, .ref (ad 0))] := hl
  unfold FX7_advance at h
  refine lv_aload_n hx hb dX7_advance_0 rfl (lv_at hl 0 rfl) ?_
  refine lv_aload_n hx hb dX7_advance_1 rfl (lv_at hl 0 rfl) ?_
  obtain ⟨o2, hc2, h⟩ := az_bnd h
  refine az_callVi (w2 := az_cM g ad V) (As := []) (rest := [.ref (ad 0)]) ⟨hx, hb, hml, hown, hts⟩ hl.1 (kX7_blocking l g ad V o2 hc2) (cwV 0 hts gX7_advance_X7_blocking rfl rfl rfl (by decide +kernel) ⟨Nat.le_of_ble_eq_true rfl, Nat.le_of_ble_eq_true rfl⟩) rfl hK hP hD hS hA [0, 1, 2, 3] [] [0, 1, 2, 3] rfl rfl rfl rfl rfl (by decide) rfl rfl rfl 0 rfl rfl rfl (Nat.le_of_ble_eq_true rfl) dX7_advance_2 ⟨Nat.zero_le _, Nat.zero_le _⟩ rfl (fun H locs hP hD hS => ?_)
  refine lv_if_ne (tgt := 12) hx hb dX7_advance_5 (by decide) (fun c5 => ?_) (fun c5 => ?_)
  · replace h := az_neg c5 h
    refine lv_iconst (v := (1 : Int32)) hx hb dX7_advance_12 (by decide) ?_
    refine va_put (D := g.1) (ci := 7) (v := .int (1 : Int32)) (ty := .int) (C := RX7) (T := TX7) (N := 5) hx hb hts inX7_advance_RX7 tyX7 tyX7_ok nmX7 hown hK hP hD hS 0 rfl rfl 3 (Nat.le_of_ble_eq_true rfl) (hts _ (List.mem_of_getElem? (i := 1) rfl)) (fun _ h9 => h9) rfl (by decide +kernel) rfl rfl (Nat.le_of_ble_eq_true rfl) dX7_advance_13 (fun H locs hP hD hS => ?_)
    obtain ⟨u13, e13⟩ : ∃ w : Nat → Int32, w = upd (V 2) 1 (1 : Int32) := ⟨_, rfl⟩
    have hP : va_P g.1 az_cl (az_cM g ad (va_up V 2 u13)) H := by rw [e13]; exact hP
    have hD : va_D A (az_cM g ad (va_up V 2 u13)) := by rw [e13]; exact hD
    replace h := az_let e13 h
    refine lv_aload_n hx hb dX7_advance_16 rfl (lv_at hl 0 rfl) ?_
    refine va_get (D := g.1) (ci := 7) (v := .int (u13 1)) (C := RX7) (T := TX7) (N := 5) hx hb hts inX7_advance_RX7 hown hK hP 0 rfl rfl 3 (Nat.le_of_ble_eq_true rfl) (hts _ (List.mem_of_getElem? (i := 1) rfl)) (fun _ h9 => h9) rfl dX7_advance_17 ?_
    refine lv_if_le (tgt := 25) hx hb dX7_advance_20 (by decide) (fun c20 => ?_) (fun c20 => ?_)
    · replace h := az_pos c20 h
      refine lv_aload_n hx hb dX7_advance_25 rfl (lv_at hl 0 rfl) ?_
      obtain ⟨o26, hc26, h⟩ := az_bnd h
      refine az_callVv (w2 := az_cM g ad (va_up (va_up V 1 o26.1) 2 o26.2)) (As := []) (rest := []) ⟨hx, hb, hml, hown, hts⟩ hl.1 (kX7_keeps l g ad (va_up V 2 u13) o26 hc26) (cwV 0 hts gX7_advance_X7_keeps rfl rfl rfl (by decide +kernel) ⟨Nat.le_of_ble_eq_true rfl, Nat.le_of_ble_eq_true rfl⟩) rfl hK hP hD hS hA [0, 1, 2, 3] [] [0, 1, 2, 3] rfl rfl rfl rfl rfl (by decide) rfl rfl rfl 0 rfl rfl rfl (Nat.le_of_ble_eq_true rfl) dX7_advance_26 ⟨Nat.zero_le _, Nat.zero_le _⟩ rfl (fun H locs hP hD hS => ?_)
      refine lv_aload_n hx hb dX7_advance_29 rfl (lv_at hl 0 rfl) ?_
      refine va_get (D := g.1) (ci := 7) (v := .ref (ad 1)) (C := RX7) (T := TX7) (N := 5) hx hb hts inX7_advance_RX7 hown hK hP 0 rfl rfl 0 (Nat.le_of_ble_eq_true rfl) (hts _ (List.mem_of_getElem? (i := 2) rfl)) (fun _ h9 => h9) rfl dX7_advance_30 ?_
      refine lv_iconst (v := (3 : Int32)) hx hb dX7_advance_33 (by decide) ?_
      refine lv_dup2_11 hx hb dX7_advance_34 rfl rfl ?_
      refine va_iald (D := g.1) (f := (V 0)) hx hb hK hP 1 0 rfl rfl (az_vin (by decide +kernel)) dX7_advance_35 ?_
      refine lv_iconst (v := (1 : Int32)) hx hb dX7_advance_36 (by decide) ?_
      refine lv_iadd hx hb dX7_advance_37 ?_
      refine va_iast (D := g.1) (f := (V 0)) hx hb hK hP hD hS 1 0 rfl rfl (az_vin (by decide +kernel)) dX7_advance_38 (fun H locs hP hD hS => ?_)
      obtain ⟨u38, e38⟩ : ∃ w : Nat → Int32, w = upd (V 0) (3 : Int32).toNatClampNeg (((V 0) (3 : Int32).toNatClampNeg) + (1 : Int32)) := ⟨_, rfl⟩
      have hP : va_P g.1 az_cl (az_cM g ad (va_up (va_up (va_up V 0 u38) 1 o26.1) 2 o26.2)) H := by rw [e38]; exact hP
      have hD : va_D A (az_cM g ad (va_up (va_up (va_up V 0 u38) 1 o26.1) 2 o26.2)) := by rw [e38]; exact hD
      replace h := az_let e38 h
      refine lv_aload_n hx hb dX7_advance_39 rfl (lv_at hl 0 rfl) ?_
      refine va_get (D := g.1) (ci := 7) (v := .ref (ad 1)) (C := RX7) (T := TX7) (N := 5) hx hb hts inX7_advance_RX7 hown hK hP 0 rfl rfl 0 (Nat.le_of_ble_eq_true rfl) (hts _ (List.mem_of_getElem? (i := 2) rfl)) (fun _ h9 => h9) rfl dX7_advance_40 ?_
      refine lv_iconst (v := (5 : Int32)) hx hb dX7_advance_43 (by decide) ?_
      refine lv_aload_n hx hb dX7_advance_44 rfl (lv_at hl 0 rfl) ?_
      refine va_get (D := g.1) (ci := 7) (v := .ref (ad 1)) (C := RX7) (T := TX7) (N := 5) hx hb hts inX7_advance_RX7 hown hK hP 0 rfl rfl 0 (Nat.le_of_ble_eq_true rfl) (hts _ (List.mem_of_getElem? (i := 2) rfl)) (fun _ h9 => h9) rfl dX7_advance_45 ?_
      refine lv_iconst (v := (4 : Int32)) hx hb dX7_advance_48 (by decide) ?_
      refine va_iald (D := g.1) (f := u38) hx hb hK hP 1 0 rfl rfl (az_vin (by decide +kernel)) dX7_advance_49 ?_
      refine va_iast (D := g.1) (f := u38) hx hb hK hP hD hS 1 0 rfl rfl (az_vin (by decide +kernel)) dX7_advance_50 (fun H locs hP hD hS => ?_)
      obtain ⟨u50, e50⟩ : ∃ w : Nat → Int32, w = upd u38 (5 : Int32).toNatClampNeg (u38 (4 : Int32).toNatClampNeg) := ⟨_, rfl⟩
      have hP : va_P g.1 az_cl (az_cM g ad (va_up (va_up (va_up V 0 u50) 1 o26.1) 2 o26.2)) H := by rw [e50]; exact hP
      have hD : va_D A (az_cM g ad (va_up (va_up (va_up V 0 u50) 1 o26.1) 2 o26.2)) := by rw [e50]; exact hD
      replace h := az_let e50 h
      refine lv_aload_n hx hb dX7_advance_51 rfl (lv_at hl 0 rfl) ?_
      refine va_get (D := g.1) (ci := 7) (v := .ref (ad 1)) (C := RX7) (T := TX7) (N := 5) hx hb hts inX7_advance_RX7 hown hK hP 0 rfl rfl 0 (Nat.le_of_ble_eq_true rfl) (hts _ (List.mem_of_getElem? (i := 2) rfl)) (fun _ h9 => h9) rfl dX7_advance_52 ?_
      refine lv_iconst (v := (3 : Int32)) hx hb dX7_advance_55 (by decide) ?_
      refine va_iald (D := g.1) (f := u50) hx hb hK hP 1 0 rfl rfl (az_vin (by decide +kernel)) dX7_advance_56 ?_
      have hP : va_P g.1 az_cl (az_cM g ad (va_up (va_up (va_up V 0 u50) 1 o26.1) 2 o26.2)) _ := hP
      have hD : va_D A (az_cM g ad (va_up (va_up (va_up V 0 u50) 1 o26.1) 2 o26.2)) := hD
      rw [← Option.some.inj h]
      exact az_iret hx hb hr hlocks hK hP hD hS dX7_advance_57
    · replace h := az_neg c20 h
      refine lv_iconst (v := (0 : Int32)) hx hb dX7_advance_23 (by decide) ?_
      have hP : va_P g.1 az_cl (az_cM g ad (va_up (va_up (va_up V 0 (V 0)) 1 (V 1)) 2 u13)) _ := hP
      have hD : va_D A (az_cM g ad (va_up (va_up (va_up V 0 (V 0)) 1 (V 1)) 2 u13)) := hD
      rw [← Option.some.inj h]
      exact az_iret hx hb hr hlocks hK hP hD hS dX7_advance_24
  · replace h := az_pos c5 h
    refine lv_iconst (v := (0 : Int32)) hx hb dX7_advance_8 (by decide) ?_
    refine lv_goto (tgt := 13) hx hb dX7_advance_9 (by decide) ?_
    refine va_put (D := g.1) (ci := 7) (v := .int (0 : Int32)) (ty := .int) (C := RX7) (T := TX7) (N := 5) hx hb hts inX7_advance_RX7 tyX7 tyX7_ok nmX7 hown hK hP hD hS 0 rfl rfl 3 (Nat.le_of_ble_eq_true rfl) (hts _ (List.mem_of_getElem? (i := 1) rfl)) (fun _ h9 => h9) rfl (by decide +kernel) rfl rfl (Nat.le_of_ble_eq_true rfl) dX7_advance_13 (fun H locs hP hD hS => ?_)
    obtain ⟨u13, e13⟩ : ∃ w : Nat → Int32, w = upd (V 2) 1 (0 : Int32) := ⟨_, rfl⟩
    have hP : va_P g.1 az_cl (az_cM g ad (va_up V 2 u13)) H := by rw [e13]; exact hP
    have hD : va_D A (az_cM g ad (va_up V 2 u13)) := by rw [e13]; exact hD
    replace h := az_let e13 h
    refine lv_aload_n hx hb dX7_advance_16 rfl (lv_at hl 0 rfl) ?_
    refine va_get (D := g.1) (ci := 7) (v := .int (u13 1)) (C := RX7) (T := TX7) (N := 5) hx hb hts inX7_advance_RX7 hown hK hP 0 rfl rfl 3 (Nat.le_of_ble_eq_true rfl) (hts _ (List.mem_of_getElem? (i := 1) rfl)) (fun _ h9 => h9) rfl dX7_advance_17 ?_
    refine lv_if_le (tgt := 25) hx hb dX7_advance_20 (by decide) (fun c20 => ?_) (fun c20 => ?_)
    · replace h := az_pos c20 h
      refine lv_aload_n hx hb dX7_advance_25 rfl (lv_at hl 0 rfl) ?_
      obtain ⟨o26, hc26, h⟩ := az_bnd h
      refine az_callVv (w2 := az_cM g ad (va_up (va_up V 1 o26.1) 2 o26.2)) (As := []) (rest := []) ⟨hx, hb, hml, hown, hts⟩ hl.1 (kX7_keeps l g ad (va_up V 2 u13) o26 hc26) (cwV 0 hts gX7_advance_X7_keeps rfl rfl rfl (by decide +kernel) ⟨Nat.le_of_ble_eq_true rfl, Nat.le_of_ble_eq_true rfl⟩) rfl hK hP hD hS hA [0, 1, 2, 3] [] [0, 1, 2, 3] rfl rfl rfl rfl rfl (by decide) rfl rfl rfl 0 rfl rfl rfl (Nat.le_of_ble_eq_true rfl) dX7_advance_26 ⟨Nat.zero_le _, Nat.zero_le _⟩ rfl (fun H locs hP hD hS => ?_)
      refine lv_aload_n hx hb dX7_advance_29 rfl (lv_at hl 0 rfl) ?_
      refine va_get (D := g.1) (ci := 7) (v := .ref (ad 1)) (C := RX7) (T := TX7) (N := 5) hx hb hts inX7_advance_RX7 hown hK hP 0 rfl rfl 0 (Nat.le_of_ble_eq_true rfl) (hts _ (List.mem_of_getElem? (i := 2) rfl)) (fun _ h9 => h9) rfl dX7_advance_30 ?_
      refine lv_iconst (v := (3 : Int32)) hx hb dX7_advance_33 (by decide) ?_
      refine lv_dup2_11 hx hb dX7_advance_34 rfl rfl ?_
      refine va_iald (D := g.1) (f := (V 0)) hx hb hK hP 1 0 rfl rfl (az_vin (by decide +kernel)) dX7_advance_35 ?_
      refine lv_iconst (v := (1 : Int32)) hx hb dX7_advance_36 (by decide) ?_
      refine lv_iadd hx hb dX7_advance_37 ?_
      refine va_iast (D := g.1) (f := (V 0)) hx hb hK hP hD hS 1 0 rfl rfl (az_vin (by decide +kernel)) dX7_advance_38 (fun H locs hP hD hS => ?_)
      obtain ⟨u38, e38⟩ : ∃ w : Nat → Int32, w = upd (V 0) (3 : Int32).toNatClampNeg (((V 0) (3 : Int32).toNatClampNeg) + (1 : Int32)) := ⟨_, rfl⟩
      have hP : va_P g.1 az_cl (az_cM g ad (va_up (va_up (va_up V 0 u38) 1 o26.1) 2 o26.2)) H := by rw [e38]; exact hP
      have hD : va_D A (az_cM g ad (va_up (va_up (va_up V 0 u38) 1 o26.1) 2 o26.2)) := by rw [e38]; exact hD
      replace h := az_let e38 h
      refine lv_aload_n hx hb dX7_advance_39 rfl (lv_at hl 0 rfl) ?_
      refine va_get (D := g.1) (ci := 7) (v := .ref (ad 1)) (C := RX7) (T := TX7) (N := 5) hx hb hts inX7_advance_RX7 hown hK hP 0 rfl rfl 0 (Nat.le_of_ble_eq_true rfl) (hts _ (List.mem_of_getElem? (i := 2) rfl)) (fun _ h9 => h9) rfl dX7_advance_40 ?_
      refine lv_iconst (v := (5 : Int32)) hx hb dX7_advance_43 (by decide) ?_
      refine lv_aload_n hx hb dX7_advance_44 rfl (lv_at hl 0 rfl) ?_
      refine va_get (D := g.1) (ci := 7) (v := .ref (ad 1)) (C := RX7) (T := TX7) (N := 5) hx hb hts inX7_advance_RX7 hown hK hP 0 rfl rfl 0 (Nat.le_of_ble_eq_true rfl) (hts _ (List.mem_of_getElem? (i := 2) rfl)) (fun _ h9 => h9) rfl dX7_advance_45 ?_
      refine lv_iconst (v := (4 : Int32)) hx hb dX7_advance_48 (by decide) ?_
      refine va_iald (D := g.1) (f := u38) hx hb hK hP 1 0 rfl rfl (az_vin (by decide +kernel)) dX7_advance_49 ?_
      refine va_iast (D := g.1) (f := u38) hx hb hK hP hD hS 1 0 rfl rfl (az_vin (by decide +kernel)) dX7_advance_50 (fun H locs hP hD hS => ?_)
      obtain ⟨u50, e50⟩ : ∃ w : Nat → Int32, w = upd u38 (5 : Int32).toNatClampNeg (u38 (4 : Int32).toNatClampNeg) := ⟨_, rfl⟩
      have hP : va_P g.1 az_cl (az_cM g ad (va_up (va_up (va_up V 0 u50) 1 o26.1) 2 o26.2)) H := by rw [e50]; exact hP
      have hD : va_D A (az_cM g ad (va_up (va_up (va_up V 0 u50) 1 o26.1) 2 o26.2)) := by rw [e50]; exact hD
      replace h := az_let e50 h
      refine lv_aload_n hx hb dX7_advance_51 rfl (lv_at hl 0 rfl) ?_
      refine va_get (D := g.1) (ci := 7) (v := .ref (ad 1)) (C := RX7) (T := TX7) (N := 5) hx hb hts inX7_advance_RX7 hown hK hP 0 rfl rfl 0 (Nat.le_of_ble_eq_true rfl) (hts _ (List.mem_of_getElem? (i := 2) rfl)) (fun _ h9 => h9) rfl dX7_advance_52 ?_
      refine lv_iconst (v := (3 : Int32)) hx hb dX7_advance_55 (by decide) ?_
      refine va_iald (D := g.1) (f := u50) hx hb hK hP 1 0 rfl rfl (az_vin (by decide +kernel)) dX7_advance_56 ?_
      have hP : va_P g.1 az_cl (az_cM g ad (va_up (va_up (va_up V 0 u50) 1 o26.1) 2 o26.2)) _ := hP
      have hD : va_D A (az_cM g ad (va_up (va_up (va_up V 0 u50) 1 o26.1) 2 o26.2)) := hD
      rw [← Option.some.inj h]
      exact az_iret hx hb hr hlocks hK hP hD hS dX7_advance_57
    · replace h := az_neg c20 h
      refine lv_iconst (v := (0 : Int32)) hx hb dX7_advance_23 (by decide) ?_
      have hP : va_P g.1 az_cl (az_cM g ad (va_up (va_up (va_up V 0 (V 0)) 1 (V 1)) 2 u13)) _ := hP
      have hD : va_D A (az_cM g ad (va_up (va_up (va_up V 0 (V 0)) 1 (V 1)) 2 u13)) := hD
      rw [← Option.some.inj h]
      exact az_iret hx hb hr hlocks hK hP hD hS dX7_advance_24

def FX7_pass (V : az_St) (x1 : Int32) : Option (Int32 × (Nat → Int32) × (Nat → Int32) × (Nat → Int32)) := (FX7_isIn x1.toInt64 (1 : Int64) (1000 : Int64)).bind (fun o7 => if o7 = (0 : Int32) then (az_lt (upd (V 2) 1 (1 : Int32)) (fun u35 => if u35 1 ≤ (0 : Int32) then ((FX7_keeps (va_up V 2 u35)).bind (fun o48 => az_lt (upd (V 0) (4 : Int32).toNatClampNeg (((V 0) (4 : Int32).toNatClampNeg) + x1)) (fun u60 => some (u60 (4 : Int32).toNatClampNeg, u60, o48.1, o48.2)))) else (some ((0 : Int32), (V 0), (V 1), u35)))) else (if ((V 0) (4 : Int32).toNatClampNeg) + x1 ≤ (1000000 : Int32) then (az_lt (upd (V 2) 1 (0 : Int32)) (fun u35 => if u35 1 ≤ (0 : Int32) then ((FX7_keeps (va_up V 2 u35)).bind (fun o48 => az_lt (upd (V 0) (4 : Int32).toNatClampNeg (((V 0) (4 : Int32).toNatClampNeg) + x1)) (fun u60 => some (u60 (4 : Int32).toNatClampNeg, u60, o48.1, o48.2)))) else (some ((0 : Int32), (V 0), (V 1), u35)))) else (az_lt (upd (V 2) 1 (2 : Int32)) (fun u35 => if u35 1 ≤ (0 : Int32) then ((FX7_keeps (va_up V 2 u35)).bind (fun o48 => az_lt (upd (V 0) (4 : Int32).toNatClampNeg (((V 0) (4 : Int32).toNatClampNeg) + x1)) (fun u60 => some (u60 (4 : Int32).toNatClampNeg, u60, o48.1, o48.2)))) else (some ((0 : Int32), (V 0), (V 1), u35))))))
theorem inX7_pass_RX7 : ∀ w ∈ wsX70, w ∈ wsX7_pass := az_inr [15, 16, 17, 18, 19] (by decide +kernel)
set_option maxHeartbeats 4000000 in
set_option maxRecDepth 100000 in
theorem kX7_pass (l : Launch) (g : az_G) (ad : Nat → Nat) (V : az_St) (x1 : Int32) (o : Int32 × (Nat → Int32) × (Nat → Int32) × (Nat → Int32)) (h : FX7_pass V x1 = some o) : az_I l yX7_pass wsX7_pass ({ frames := 1, cells := 0, slots := 0, locals := 25 } : Room) [.ref (ad 0), .int x1] g (az_cM g ad V) o.1 (az_cM g ad (va_up (va_up (va_up V 0 o.2.1) 1 o.2.2.1) 2 o.2.2.2)) := by
  refine az_body (cc := cX7_pass) (maxL := 2) (ret := (some .int)) (Qc := fun A => az_QI g (az_cM g ad (va_up (va_up (va_up V 0 o.2.1) 1 o.2.2.1) 2 o.2.2.2)) o.1 A) (by decide +kernel) rfl (Nat.le_of_ble_eq_true rfl) ?_
  intro p e s m args below meth c A hx hb hr hts hown hml hlocks hA hK hP hD hS ls hl
  have hl : lv_has ls 2 [(0, .ref (ad 0)), (1, .int x1)] := hl
  unfold FX7_pass at h
  refine lv_aload_n hx hb dX7_pass_0 rfl (lv_at hl 0 rfl) ?_
  refine lv_iload_n hx hb dX7_pass_1 rfl (lv_at hl 1 rfl) ?_
  refine lv_i2l (v := x1.toInt64) hx hb dX7_pass_2 rfl ?_
  refine lv_lconst (v := (1 : Int64)) hx hb dX7_pass_3 (by decide) ?_
  refine lv_ldc2 (v := (1000 : Int64)) hx hb hown (hts _ (List.mem_of_getElem? (i := 1) rfl)) dX7_pass_4 ?_
  obtain ⟨o7, hc7, h⟩ := az_bnd h
  refine az_callS0 (As := [.long x1.toInt64, .long (1 : Int64), .long (1000 : Int64)]) (rest := [.ref (ad 0)]) ⟨hx, hb, hml, hown, hts⟩ hl.1 (kX7_isIn l g x1.toInt64 (1 : Int64) (1000 : Int64) o7 hc7) (va_cwS 3 hts gX7_pass_X7_isIn rfl rfl rfl (by decide +kernel) ⟨Nat.le_of_ble_eq_true rfl, Nat.le_of_ble_eq_true rfl⟩) rfl hK hP hS hA (Nat.le_of_ble_eq_true rfl) dX7_pass_7 ⟨Nat.zero_le _, Nat.zero_le _⟩ rfl (fun H locs hP hS => ?_)
  refine lv_if_ne (tgt := 17) hx hb dX7_pass_10 (by decide) (fun c10 => ?_) (fun c10 => ?_)
  · replace h := az_neg c10 h
    refine lv_aload_n hx hb dX7_pass_17 rfl (lv_at hl 0 rfl) ?_
    refine va_get (D := g.1) (ci := 7) (v := .ref (ad 1)) (C := RX7) (T := TX7) (N := 5) hx hb hts inX7_pass_RX7 hown hK hP 0 rfl rfl 0 (Nat.le_of_ble_eq_true rfl) (hts _ (List.mem_of_getElem? (i := 2) rfl)) (fun _ h9 => h9) rfl dX7_pass_18 ?_
    refine lv_iconst (v := (4 : Int32)) hx hb dX7_pass_21 (by decide) ?_
    refine va_iald (D := g.1) (f := (V 0)) hx hb hK hP 1 0 rfl rfl (az_vin (by decide +kernel)) dX7_pass_22 ?_
    refine lv_iload_n hx hb dX7_pass_23 rfl (lv_at hl 1 rfl) ?_
    refine lv_iadd hx hb dX7_pass_24 ?_
    refine lv_ldc (v := (1000000 : Int32)) hx hb hown (hts _ (List.mem_of_getElem? (i := 3) rfl)) dX7_pass_25 ?_
    refine lv_icmp_le (tgt := 34) hx hb dX7_pass_27 (by decide) (fun c27 => ?_) (fun c27 => ?_)
    · replace h := az_pos c27 h
      refine lv_iconst (v := (0 : Int32)) hx hb dX7_pass_34 (by decide) ?_
      refine va_put (D := g.1) (ci := 7) (v := .int (0 : Int32)) (ty := .int) (C := RX7) (T := TX7) (N := 5) hx hb hts inX7_pass_RX7 tyX7 tyX7_ok nmX7 hown hK hP hD hS 0 rfl rfl 3 (Nat.le_of_ble_eq_true rfl) (hts _ (List.mem_of_getElem? (i := 4) rfl)) (fun _ h9 => h9) rfl (by decide +kernel) rfl rfl (Nat.le_of_ble_eq_true rfl) dX7_pass_35 (fun H locs hP hD hS => ?_)
      obtain ⟨u35, e35⟩ : ∃ w : Nat → Int32, w = upd (V 2) 1 (0 : Int32) := ⟨_, rfl⟩
      have hP : va_P g.1 az_cl (az_cM g ad (va_up V 2 u35)) H := by rw [e35]; exact hP
      have hD : va_D A (az_cM g ad (va_up V 2 u35)) := by rw [e35]; exact hD
      replace h := az_let e35 h
      refine lv_aload_n hx hb dX7_pass_38 rfl (lv_at hl 0 rfl) ?_
      refine va_get (D := g.1) (ci := 7) (v := .int (u35 1)) (C := RX7) (T := TX7) (N := 5) hx hb hts inX7_pass_RX7 hown hK hP 0 rfl rfl 3 (Nat.le_of_ble_eq_true rfl) (hts _ (List.mem_of_getElem? (i := 4) rfl)) (fun _ h9 => h9) rfl dX7_pass_39 ?_
      refine lv_if_le (tgt := 47) hx hb dX7_pass_42 (by decide) (fun c42 => ?_) (fun c42 => ?_)
      · replace h := az_pos c42 h
        refine lv_aload_n hx hb dX7_pass_47 rfl (lv_at hl 0 rfl) ?_
        obtain ⟨o48, hc48, h⟩ := az_bnd h
        refine az_callVv (w2 := az_cM g ad (va_up (va_up V 1 o48.1) 2 o48.2)) (As := []) (rest := []) ⟨hx, hb, hml, hown, hts⟩ hl.1 (kX7_keeps l g ad (va_up V 2 u35) o48 hc48) (cwV 0 hts gX7_pass_X7_keeps rfl rfl rfl (by decide +kernel) ⟨Nat.le_of_ble_eq_true rfl, Nat.le_of_ble_eq_true rfl⟩) rfl hK hP hD hS hA [0, 1, 2, 3] [] [0, 1, 2, 3] rfl rfl rfl rfl rfl (by decide) rfl rfl rfl 0 rfl rfl rfl (Nat.le_of_ble_eq_true rfl) dX7_pass_48 ⟨Nat.zero_le _, Nat.zero_le _⟩ rfl (fun H locs hP hD hS => ?_)
        refine lv_aload_n hx hb dX7_pass_51 rfl (lv_at hl 0 rfl) ?_
        refine va_get (D := g.1) (ci := 7) (v := .ref (ad 1)) (C := RX7) (T := TX7) (N := 5) hx hb hts inX7_pass_RX7 hown hK hP 0 rfl rfl 0 (Nat.le_of_ble_eq_true rfl) (hts _ (List.mem_of_getElem? (i := 2) rfl)) (fun _ h9 => h9) rfl dX7_pass_52 ?_
        refine lv_iconst (v := (4 : Int32)) hx hb dX7_pass_55 (by decide) ?_
        refine lv_dup2_11 hx hb dX7_pass_56 rfl rfl ?_
        refine va_iald (D := g.1) (f := (V 0)) hx hb hK hP 1 0 rfl rfl (az_vin (by decide +kernel)) dX7_pass_57 ?_
        refine lv_iload_n hx hb dX7_pass_58 rfl (lv_at hl 1 rfl) ?_
        refine lv_iadd hx hb dX7_pass_59 ?_
        refine va_iast (D := g.1) (f := (V 0)) hx hb hK hP hD hS 1 0 rfl rfl (az_vin (by decide +kernel)) dX7_pass_60 (fun H locs hP hD hS => ?_)
        obtain ⟨u60, e60⟩ : ∃ w : Nat → Int32, w = upd (V 0) (4 : Int32).toNatClampNeg (((V 0) (4 : Int32).toNatClampNeg) + x1) := ⟨_, rfl⟩
        have hP : va_P g.1 az_cl (az_cM g ad (va_up (va_up (va_up V 0 u60) 1 o48.1) 2 o48.2)) H := by rw [e60]; exact hP
        have hD : va_D A (az_cM g ad (va_up (va_up (va_up V 0 u60) 1 o48.1) 2 o48.2)) := by rw [e60]; exact hD
        replace h := az_let e60 h
        refine lv_aload_n hx hb dX7_pass_61 rfl (lv_at hl 0 rfl) ?_
        refine va_get (D := g.1) (ci := 7) (v := .ref (ad 1)) (C := RX7) (T := TX7) (N := 5) hx hb hts inX7_pass_RX7 hown hK hP 0 rfl rfl 0 (Nat.le_of_ble_eq_true rfl) (hts _ (List.mem_of_getElem? (i := 2) rfl)) (fun _ h9 => h9) rfl dX7_pass_62 ?_
        refine lv_iconst (v := (4 : Int32)) hx hb dX7_pass_65 (by decide) ?_
        refine va_iald (D := g.1) (f := u60) hx hb hK hP 1 0 rfl rfl (az_vin (by decide +kernel)) dX7_pass_66 ?_
        have hP : va_P g.1 az_cl (az_cM g ad (va_up (va_up (va_up V 0 u60) 1 o48.1) 2 o48.2)) _ := hP
        have hD : va_D A (az_cM g ad (va_up (va_up (va_up V 0 u60) 1 o48.1) 2 o48.2)) := hD
        rw [← Option.some.inj h]
        exact az_iret hx hb hr hlocks hK hP hD hS dX7_pass_67
      · replace h := az_neg c42 h
        refine lv_iconst (v := (0 : Int32)) hx hb dX7_pass_45 (by decide) ?_
        have hP : va_P g.1 az_cl (az_cM g ad (va_up (va_up (va_up V 0 (V 0)) 1 (V 1)) 2 u35)) _ := hP
        have hD : va_D A (az_cM g ad (va_up (va_up (va_up V 0 (V 0)) 1 (V 1)) 2 u35)) := hD
        rw [← Option.some.inj h]
        exact az_iret hx hb hr hlocks hK hP hD hS dX7_pass_46
    · replace h := az_neg c27 h
      refine lv_iconst (v := (2 : Int32)) hx hb dX7_pass_30 (by decide) ?_
      refine lv_goto (tgt := 35) hx hb dX7_pass_31 (by decide) ?_
      refine va_put (D := g.1) (ci := 7) (v := .int (2 : Int32)) (ty := .int) (C := RX7) (T := TX7) (N := 5) hx hb hts inX7_pass_RX7 tyX7 tyX7_ok nmX7 hown hK hP hD hS 0 rfl rfl 3 (Nat.le_of_ble_eq_true rfl) (hts _ (List.mem_of_getElem? (i := 4) rfl)) (fun _ h9 => h9) rfl (by decide +kernel) rfl rfl (Nat.le_of_ble_eq_true rfl) dX7_pass_35 (fun H locs hP hD hS => ?_)
      obtain ⟨u35, e35⟩ : ∃ w : Nat → Int32, w = upd (V 2) 1 (2 : Int32) := ⟨_, rfl⟩
      have hP : va_P g.1 az_cl (az_cM g ad (va_up V 2 u35)) H := by rw [e35]; exact hP
      have hD : va_D A (az_cM g ad (va_up V 2 u35)) := by rw [e35]; exact hD
      replace h := az_let e35 h
      refine lv_aload_n hx hb dX7_pass_38 rfl (lv_at hl 0 rfl) ?_
      refine va_get (D := g.1) (ci := 7) (v := .int (u35 1)) (C := RX7) (T := TX7) (N := 5) hx hb hts inX7_pass_RX7 hown hK hP 0 rfl rfl 3 (Nat.le_of_ble_eq_true rfl) (hts _ (List.mem_of_getElem? (i := 4) rfl)) (fun _ h9 => h9) rfl dX7_pass_39 ?_
      refine lv_if_le (tgt := 47) hx hb dX7_pass_42 (by decide) (fun c42 => ?_) (fun c42 => ?_)
      · replace h := az_pos c42 h
        refine lv_aload_n hx hb dX7_pass_47 rfl (lv_at hl 0 rfl) ?_
        obtain ⟨o48, hc48, h⟩ := az_bnd h
        refine az_callVv (w2 := az_cM g ad (va_up (va_up V 1 o48.1) 2 o48.2)) (As := []) (rest := []) ⟨hx, hb, hml, hown, hts⟩ hl.1 (kX7_keeps l g ad (va_up V 2 u35) o48 hc48) (cwV 0 hts gX7_pass_X7_keeps rfl rfl rfl (by decide +kernel) ⟨Nat.le_of_ble_eq_true rfl, Nat.le_of_ble_eq_true rfl⟩) rfl hK hP hD hS hA [0, 1, 2, 3] [] [0, 1, 2, 3] rfl rfl rfl rfl rfl (by decide) rfl rfl rfl 0 rfl rfl rfl (Nat.le_of_ble_eq_true rfl) dX7_pass_48 ⟨Nat.zero_le _, Nat.zero_le _⟩ rfl (fun H locs hP hD hS => ?_)
        refine lv_aload_n hx hb dX7_pass_51 rfl (lv_at hl 0 rfl) ?_
        refine va_get (D := g.1) (ci := 7) (v := .ref (ad 1)) (C := RX7) (T := TX7) (N := 5) hx hb hts inX7_pass_RX7 hown hK hP 0 rfl rfl 0 (Nat.le_of_ble_eq_true rfl) (hts _ (List.mem_of_getElem? (i := 2) rfl)) (fun _ h9 => h9) rfl dX7_pass_52 ?_
        refine lv_iconst (v := (4 : Int32)) hx hb dX7_pass_55 (by decide) ?_
        refine lv_dup2_11 hx hb dX7_pass_56 rfl rfl ?_
        refine va_iald (D := g.1) (f := (V 0)) hx hb hK hP 1 0 rfl rfl (az_vin (by decide +kernel)) dX7_pass_57 ?_
        refine lv_iload_n hx hb dX7_pass_58 rfl (lv_at hl 1 rfl) ?_
        refine lv_iadd hx hb dX7_pass_59 ?_
        refine va_iast (D := g.1) (f := (V 0)) hx hb hK hP hD hS 1 0 rfl rfl (az_vin (by decide +kernel)) dX7_pass_60 (fun H locs hP hD hS => ?_)
        obtain ⟨u60, e60⟩ : ∃ w : Nat → Int32, w = upd (V 0) (4 : Int32).toNatClampNeg (((V 0) (4 : Int32).toNatClampNeg) + x1) := ⟨_, rfl⟩
        have hP : va_P g.1 az_cl (az_cM g ad (va_up (va_up (va_up V 0 u60) 1 o48.1) 2 o48.2)) H := by rw [e60]; exact hP
        have hD : va_D A (az_cM g ad (va_up (va_up (va_up V 0 u60) 1 o48.1) 2 o48.2)) := by rw [e60]; exact hD
        replace h := az_let e60 h
        refine lv_aload_n hx hb dX7_pass_61 rfl (lv_at hl 0 rfl) ?_
        refine va_get (D := g.1) (ci := 7) (v := .ref (ad 1)) (C := RX7) (T := TX7) (N := 5) hx hb hts inX7_pass_RX7 hown hK hP 0 rfl rfl 0 (Nat.le_of_ble_eq_true rfl) (hts _ (List.mem_of_getElem? (i := 2) rfl)) (fun _ h9 => h9) rfl dX7_pass_62 ?_
        refine lv_iconst (v := (4 : Int32)) hx hb dX7_pass_65 (by decide) ?_
        refine va_iald (D := g.1) (f := u60) hx hb hK hP 1 0 rfl rfl (az_vin (by decide +kernel)) dX7_pass_66 ?_
        have hP : va_P g.1 az_cl (az_cM g ad (va_up (va_up (va_up V 0 u60) 1 o48.1) 2 o48.2)) _ := hP
        have hD : va_D A (az_cM g ad (va_up (va_up (va_up V 0 u60) 1 o48.1) 2 o48.2)) := hD
        rw [← Option.some.inj h]
        exact az_iret hx hb hr hlocks hK hP hD hS dX7_pass_67
      · replace h := az_neg c42 h
        refine lv_iconst (v := (0 : Int32)) hx hb dX7_pass_45 (by decide) ?_
        have hP : va_P g.1 az_cl (az_cM g ad (va_up (va_up (va_up V 0 (V 0)) 1 (V 1)) 2 u35)) _ := hP
        have hD : va_D A (az_cM g ad (va_up (va_up (va_up V 0 (V 0)) 1 (V 1)) 2 u35)) := hD
        rw [← Option.some.inj h]
        exact az_iret hx hb hr hlocks hK hP hD hS dX7_pass_46
  · replace h := az_pos c10 h
    refine lv_iconst (v := (1 : Int32)) hx hb dX7_pass_13 (by decide) ?_
    refine lv_goto (tgt := 35) hx hb dX7_pass_14 (by decide) ?_
    refine va_put (D := g.1) (ci := 7) (v := .int (1 : Int32)) (ty := .int) (C := RX7) (T := TX7) (N := 5) hx hb hts inX7_pass_RX7 tyX7 tyX7_ok nmX7 hown hK hP hD hS 0 rfl rfl 3 (Nat.le_of_ble_eq_true rfl) (hts _ (List.mem_of_getElem? (i := 4) rfl)) (fun _ h9 => h9) rfl (by decide +kernel) rfl rfl (Nat.le_of_ble_eq_true rfl) dX7_pass_35 (fun H locs hP hD hS => ?_)
    obtain ⟨u35, e35⟩ : ∃ w : Nat → Int32, w = upd (V 2) 1 (1 : Int32) := ⟨_, rfl⟩
    have hP : va_P g.1 az_cl (az_cM g ad (va_up V 2 u35)) H := by rw [e35]; exact hP
    have hD : va_D A (az_cM g ad (va_up V 2 u35)) := by rw [e35]; exact hD
    replace h := az_let e35 h
    refine lv_aload_n hx hb dX7_pass_38 rfl (lv_at hl 0 rfl) ?_
    refine va_get (D := g.1) (ci := 7) (v := .int (u35 1)) (C := RX7) (T := TX7) (N := 5) hx hb hts inX7_pass_RX7 hown hK hP 0 rfl rfl 3 (Nat.le_of_ble_eq_true rfl) (hts _ (List.mem_of_getElem? (i := 4) rfl)) (fun _ h9 => h9) rfl dX7_pass_39 ?_
    refine lv_if_le (tgt := 47) hx hb dX7_pass_42 (by decide) (fun c42 => ?_) (fun c42 => ?_)
    · replace h := az_pos c42 h
      refine lv_aload_n hx hb dX7_pass_47 rfl (lv_at hl 0 rfl) ?_
      obtain ⟨o48, hc48, h⟩ := az_bnd h
      refine az_callVv (w2 := az_cM g ad (va_up (va_up V 1 o48.1) 2 o48.2)) (As := []) (rest := []) ⟨hx, hb, hml, hown, hts⟩ hl.1 (kX7_keeps l g ad (va_up V 2 u35) o48 hc48) (cwV 0 hts gX7_pass_X7_keeps rfl rfl rfl (by decide +kernel) ⟨Nat.le_of_ble_eq_true rfl, Nat.le_of_ble_eq_true rfl⟩) rfl hK hP hD hS hA [0, 1, 2, 3] [] [0, 1, 2, 3] rfl rfl rfl rfl rfl (by decide) rfl rfl rfl 0 rfl rfl rfl (Nat.le_of_ble_eq_true rfl) dX7_pass_48 ⟨Nat.zero_le _, Nat.zero_le _⟩ rfl (fun H locs hP hD hS => ?_)
      refine lv_aload_n hx hb dX7_pass_51 rfl (lv_at hl 0 rfl) ?_
      refine va_get (D := g.1) (ci := 7) (v := .ref (ad 1)) (C := RX7) (T := TX7) (N := 5) hx hb hts inX7_pass_RX7 hown hK hP 0 rfl rfl 0 (Nat.le_of_ble_eq_true rfl) (hts _ (List.mem_of_getElem? (i := 2) rfl)) (fun _ h9 => h9) rfl dX7_pass_52 ?_
      refine lv_iconst (v := (4 : Int32)) hx hb dX7_pass_55 (by decide) ?_
      refine lv_dup2_11 hx hb dX7_pass_56 rfl rfl ?_
      refine va_iald (D := g.1) (f := (V 0)) hx hb hK hP 1 0 rfl rfl (az_vin (by decide +kernel)) dX7_pass_57 ?_
      refine lv_iload_n hx hb dX7_pass_58 rfl (lv_at hl 1 rfl) ?_
      refine lv_iadd hx hb dX7_pass_59 ?_
      refine va_iast (D := g.1) (f := (V 0)) hx hb hK hP hD hS 1 0 rfl rfl (az_vin (by decide +kernel)) dX7_pass_60 (fun H locs hP hD hS => ?_)
      obtain ⟨u60, e60⟩ : ∃ w : Nat → Int32, w = upd (V 0) (4 : Int32).toNatClampNeg (((V 0) (4 : Int32).toNatClampNeg) + x1) := ⟨_, rfl⟩
      have hP : va_P g.1 az_cl (az_cM g ad (va_up (va_up (va_up V 0 u60) 1 o48.1) 2 o48.2)) H := by rw [e60]; exact hP
      have hD : va_D A (az_cM g ad (va_up (va_up (va_up V 0 u60) 1 o48.1) 2 o48.2)) := by rw [e60]; exact hD
      replace h := az_let e60 h
      refine lv_aload_n hx hb dX7_pass_61 rfl (lv_at hl 0 rfl) ?_
      refine va_get (D := g.1) (ci := 7) (v := .ref (ad 1)) (C := RX7) (T := TX7) (N := 5) hx hb hts inX7_pass_RX7 hown hK hP 0 rfl rfl 0 (Nat.le_of_ble_eq_true rfl) (hts _ (List.mem_of_getElem? (i := 2) rfl)) (fun _ h9 => h9) rfl dX7_pass_62 ?_
      refine lv_iconst (v := (4 : Int32)) hx hb dX7_pass_65 (by decide) ?_
      refine va_iald (D := g.1) (f := u60) hx hb hK hP 1 0 rfl rfl (az_vin (by decide +kernel)) dX7_pass_66 ?_
      have hP : va_P g.1 az_cl (az_cM g ad (va_up (va_up (va_up V 0 u60) 1 o48.1) 2 o48.2)) _ := hP
      have hD : va_D A (az_cM g ad (va_up (va_up (va_up V 0 u60) 1 o48.1) 2 o48.2)) := hD
      rw [← Option.some.inj h]
      exact az_iret hx hb hr hlocks hK hP hD hS dX7_pass_67
    · replace h := az_neg c42 h
      refine lv_iconst (v := (0 : Int32)) hx hb dX7_pass_45 (by decide) ?_
      have hP : va_P g.1 az_cl (az_cM g ad (va_up (va_up (va_up V 0 (V 0)) 1 (V 1)) 2 u35)) _ := hP
      have hD : va_D A (az_cM g ad (va_up (va_up (va_up V 0 (V 0)) 1 (V 1)) 2 u35)) := hD
      rw [← Option.some.inj h]
      exact az_iret hx hb hr hlocks hK hP hD hS dX7_pass_46

def FX7_count (V : az_St) (x1 : Int32) : Option (Int32 × (Nat → Int32)) := (FX7_isIn x1.toInt64 (0 : Int64) (9 : Int64)).bind (fun o7 => if o7 = (0 : Int32) then (az_lt (upd (V 2) 1 (1 : Int32)) (fun u18 => if u18 1 ≤ (0 : Int32) then (if az_in x1 1036 = true then some ((V 0) x1.toNatClampNeg, u18) else none) else (some ((0 : Int32), u18)))) else (az_lt (upd (V 2) 1 (0 : Int32)) (fun u18 => if u18 1 ≤ (0 : Int32) then (if az_in x1 1036 = true then some ((V 0) x1.toNatClampNeg, u18) else none) else (some ((0 : Int32), u18)))))
theorem inX7_count_RX7 : ∀ w ∈ wsX70, w ∈ wsX7_count := az_inr [8, 9, 10, 11, 12] (by decide +kernel)
set_option maxHeartbeats 4000000 in
set_option maxRecDepth 100000 in
theorem kX7_count (l : Launch) (g : az_G) (ad : Nat → Nat) (V : az_St) (x1 : Int32) (o : Int32 × (Nat → Int32)) (h : FX7_count V x1 = some o) : az_I l yX7_count wsX7_count ({ frames := 1, cells := 0, slots := 0, locals := 25 } : Room) [.ref (ad 0), .int x1] g (az_cM g ad V) o.1 (az_cM g ad (va_up V 2 o.2)) := by
  refine az_body (cc := cX7_count) (maxL := 2) (ret := (some .int)) (Qc := fun A => az_QI g (az_cM g ad (va_up V 2 o.2)) o.1 A) (by decide +kernel) rfl (Nat.le_of_ble_eq_true rfl) ?_
  intro p e s m args below meth c A hx hb hr hts hown hml hlocks hA hK hP hD hS ls hl
  have hl : lv_has ls 2 [(0, .ref (ad 0)), (1, .int x1)] := hl
  unfold FX7_count at h
  refine lv_aload_n hx hb dX7_count_0 rfl (lv_at hl 0 rfl) ?_
  refine lv_iload_n hx hb dX7_count_1 rfl (lv_at hl 1 rfl) ?_
  refine lv_i2l (v := x1.toInt64) hx hb dX7_count_2 rfl ?_
  refine lv_lconst (v := (0 : Int64)) hx hb dX7_count_3 (by decide) ?_
  refine lv_ldc2 (v := (9 : Int64)) hx hb hown (hts _ (List.mem_of_getElem? (i := 1) rfl)) dX7_count_4 ?_
  obtain ⟨o7, hc7, h⟩ := az_bnd h
  refine az_callS0 (As := [.long x1.toInt64, .long (0 : Int64), .long (9 : Int64)]) (rest := [.ref (ad 0)]) ⟨hx, hb, hml, hown, hts⟩ hl.1 (kX7_isIn l g x1.toInt64 (0 : Int64) (9 : Int64) o7 hc7) (va_cwS 3 hts gX7_count_X7_isIn rfl rfl rfl (by decide +kernel) ⟨Nat.le_of_ble_eq_true rfl, Nat.le_of_ble_eq_true rfl⟩) rfl hK hP hS hA (Nat.le_of_ble_eq_true rfl) dX7_count_7 ⟨Nat.zero_le _, Nat.zero_le _⟩ rfl (fun H locs hP hS => ?_)
  refine lv_if_eq (tgt := 17) hx hb dX7_count_10 (by decide) (fun c10 => ?_) (fun c10 => ?_)
  · replace h := az_pos c10 h
    refine lv_iconst (v := (1 : Int32)) hx hb dX7_count_17 (by decide) ?_
    refine va_put (D := g.1) (ci := 7) (v := .int (1 : Int32)) (ty := .int) (C := RX7) (T := TX7) (N := 5) hx hb hts inX7_count_RX7 tyX7 tyX7_ok nmX7 hown hK hP hD hS 0 rfl rfl 3 (Nat.le_of_ble_eq_true rfl) (hts _ (List.mem_of_getElem? (i := 2) rfl)) (fun _ h9 => h9) rfl (by decide +kernel) rfl rfl (Nat.le_of_ble_eq_true rfl) dX7_count_18 (fun H locs hP hD hS => ?_)
    obtain ⟨u18, e18⟩ : ∃ w : Nat → Int32, w = upd (V 2) 1 (1 : Int32) := ⟨_, rfl⟩
    have hP : va_P g.1 az_cl (az_cM g ad (va_up V 2 u18)) H := by rw [e18]; exact hP
    have hD : va_D A (az_cM g ad (va_up V 2 u18)) := by rw [e18]; exact hD
    replace h := az_let e18 h
    refine lv_aload_n hx hb dX7_count_21 rfl (lv_at hl 0 rfl) ?_
    refine va_get (D := g.1) (ci := 7) (v := .int (u18 1)) (C := RX7) (T := TX7) (N := 5) hx hb hts inX7_count_RX7 hown hK hP 0 rfl rfl 3 (Nat.le_of_ble_eq_true rfl) (hts _ (List.mem_of_getElem? (i := 2) rfl)) (fun _ h9 => h9) rfl dX7_count_22 ?_
    refine lv_if_le (tgt := 32) hx hb dX7_count_25 (by decide) (fun c25 => ?_) (fun c25 => ?_)
    · replace h := az_pos c25 h
      refine lv_aload_n hx hb dX7_count_32 rfl (lv_at hl 0 rfl) ?_
      refine va_get (D := g.1) (ci := 7) (v := .ref (ad 1)) (C := RX7) (T := TX7) (N := 5) hx hb hts inX7_count_RX7 hown hK hP 0 rfl rfl 0 (Nat.le_of_ble_eq_true rfl) (hts _ (List.mem_of_getElem? (i := 3) rfl)) (fun _ h9 => h9) rfl dX7_count_33 ?_
      refine lv_iload_n hx hb dX7_count_36 rfl (lv_at hl 1 rfl) ?_
      obtain ⟨i37, h⟩ := az_ite h
      refine va_iald (D := g.1) (f := (V 0)) hx hb hK hP 1 0 rfl rfl (az_vin i37) dX7_count_37 ?_
      have hP : va_P g.1 az_cl (az_cM g ad (va_up V 2 u18)) _ := hP
      have hD : va_D A (az_cM g ad (va_up V 2 u18)) := hD
      rw [← Option.some.inj h]
      exact az_iret hx hb hr hlocks hK hP hD hS dX7_count_38
    · replace h := az_neg c25 h
      refine lv_iconst (v := (0 : Int32)) hx hb dX7_count_28 (by decide) ?_
      refine lv_goto (tgt := 38) hx hb dX7_count_29 (by decide) ?_
      have hP : va_P g.1 az_cl (az_cM g ad (va_up V 2 u18)) _ := hP
      have hD : va_D A (az_cM g ad (va_up V 2 u18)) := hD
      rw [← Option.some.inj h]
      exact az_iret hx hb hr hlocks hK hP hD hS dX7_count_38
  · replace h := az_neg c10 h
    refine lv_iconst (v := (0 : Int32)) hx hb dX7_count_13 (by decide) ?_
    refine lv_goto (tgt := 18) hx hb dX7_count_14 (by decide) ?_
    refine va_put (D := g.1) (ci := 7) (v := .int (0 : Int32)) (ty := .int) (C := RX7) (T := TX7) (N := 5) hx hb hts inX7_count_RX7 tyX7 tyX7_ok nmX7 hown hK hP hD hS 0 rfl rfl 3 (Nat.le_of_ble_eq_true rfl) (hts _ (List.mem_of_getElem? (i := 2) rfl)) (fun _ h9 => h9) rfl (by decide +kernel) rfl rfl (Nat.le_of_ble_eq_true rfl) dX7_count_18 (fun H locs hP hD hS => ?_)
    obtain ⟨u18, e18⟩ : ∃ w : Nat → Int32, w = upd (V 2) 1 (0 : Int32) := ⟨_, rfl⟩
    have hP : va_P g.1 az_cl (az_cM g ad (va_up V 2 u18)) H := by rw [e18]; exact hP
    have hD : va_D A (az_cM g ad (va_up V 2 u18)) := by rw [e18]; exact hD
    replace h := az_let e18 h
    refine lv_aload_n hx hb dX7_count_21 rfl (lv_at hl 0 rfl) ?_
    refine va_get (D := g.1) (ci := 7) (v := .int (u18 1)) (C := RX7) (T := TX7) (N := 5) hx hb hts inX7_count_RX7 hown hK hP 0 rfl rfl 3 (Nat.le_of_ble_eq_true rfl) (hts _ (List.mem_of_getElem? (i := 2) rfl)) (fun _ h9 => h9) rfl dX7_count_22 ?_
    refine lv_if_le (tgt := 32) hx hb dX7_count_25 (by decide) (fun c25 => ?_) (fun c25 => ?_)
    · replace h := az_pos c25 h
      refine lv_aload_n hx hb dX7_count_32 rfl (lv_at hl 0 rfl) ?_
      refine va_get (D := g.1) (ci := 7) (v := .ref (ad 1)) (C := RX7) (T := TX7) (N := 5) hx hb hts inX7_count_RX7 hown hK hP 0 rfl rfl 0 (Nat.le_of_ble_eq_true rfl) (hts _ (List.mem_of_getElem? (i := 3) rfl)) (fun _ h9 => h9) rfl dX7_count_33 ?_
      refine lv_iload_n hx hb dX7_count_36 rfl (lv_at hl 1 rfl) ?_
      obtain ⟨i37, h⟩ := az_ite h
      refine va_iald (D := g.1) (f := (V 0)) hx hb hK hP 1 0 rfl rfl (az_vin i37) dX7_count_37 ?_
      have hP : va_P g.1 az_cl (az_cM g ad (va_up V 2 u18)) _ := hP
      have hD : va_D A (az_cM g ad (va_up V 2 u18)) := hD
      rw [← Option.some.inj h]
      exact az_iret hx hb hr hlocks hK hP hD hS dX7_count_38
    · replace h := az_neg c25 h
      refine lv_iconst (v := (0 : Int32)) hx hb dX7_count_28 (by decide) ?_
      refine lv_goto (tgt := 38) hx hb dX7_count_29 (by decide) ?_
      have hP : va_P g.1 az_cl (az_cM g ad (va_up V 2 u18)) _ := hP
      have hD : va_D A (az_cM g ad (va_up V 2 u18)) := hD
      rw [← Option.some.inj h]
      exact az_iret hx hb hr hlocks hK hP hD hS dX7_count_38

def FX7_inState_L8 : Nat → az_St → Int32 → Int32 → Int32 → Int32 → Option (Int32)
  | 0, _, _, _, _, _ => none
  | n + 1, V, x1, x2, y3, y4 => if ((16 : Int32) * x1) + ((V 0) (1 : Int32).toNatClampNeg) ≤ y4 then (some (y3)) else ((FX7_ofBlock V y4 (0 : Int32)).bind (fun o29 => if o29 = x2 then (FX7_inState_L8 n V x1 x2 (y3 + (1 : Int32)) (y4 + (1 : Int32))) else (FX7_inState_L8 n V x1 x2 (y3 + (0 : Int32)) (y4 + (1 : Int32)))))
theorem FX7_inState_L8_s (n : Nat) (V : az_St) (x1 : Int32) (x2 : Int32) (y3 : Int32) (y4 : Int32) : FX7_inState_L8 (n + 1) V x1 x2 y3 y4 = (if ((16 : Int32) * x1) + ((V 0) (1 : Int32).toNatClampNeg) ≤ y4 then (some (y3)) else ((FX7_ofBlock V y4 (0 : Int32)).bind (fun o29 => if o29 = x2 then (FX7_inState_L8 n V x1 x2 (y3 + (1 : Int32)) (y4 + (1 : Int32))) else (FX7_inState_L8 n V x1 x2 (y3 + (0 : Int32)) (y4 + (1 : Int32)))))) := rfl
def FX7_inState (V : az_St) (x1 : Int32) (x2 : Int32) : Option (Int32) := FX7_inState_L8 az_fuel V x1 x2 (0 : Int32) ((16 : Int32) * x1)
theorem inX7_inState_RX7 : ∀ w ∈ wsX70, w ∈ wsX7_inState := az_inr [7, 8, 9, 10, 11] (by decide +kernel)
set_option maxHeartbeats 4000000 in
set_option maxRecDepth 100000 in
theorem kX7_inState (l : Launch) (g : az_G) (ad : Nat → Nat) (V : az_St) (x1 : Int32) (x2 : Int32) (o : Int32) (h : FX7_inState V x1 x2 = some o) : az_I l yX7_inState wsX7_inState ({ frames := 1, cells := 0, slots := 0, locals := 22 } : Room) [.ref (ad 0), .int x1, .int x2] g (az_cM g ad V) o (az_cM g ad V) := by
  refine az_body (cc := cX7_inState) (maxL := 5) (ret := (some .int)) (Qc := fun A => az_QI g (az_cM g ad V) o A) (by decide +kernel) rfl (Nat.le_of_ble_eq_true rfl) ?_
  intro p e s m args below meth c A hx hb hr hts hown hml hlocks hA hK hP hD hS ls hl
  have hl : lv_has ls 5 [(0, .ref (ad 0)), (1, .int x1), (2, .int x2)] := hl
  unfold FX7_inState at h
  have hL8 : ∀ (n : Nat) (y3 : Int32) (y4 : Int32) (H : Heap) (locs : List Loc) (ls : Array Slot), FX7_inState_L8 n V x1 x2 y3 y4 = some o → va_P g.1 az_cl (az_cM g ad V) H → va_D A (az_cM g ad V) → va_S A s.heap H locs → lv_has ls 5 [(0, .ref (ad 0)), (1, .int x1), (2, .int x2), (3, .int y3), (4, .int y4)] → W p l e ({ frames := 1, cells := 0, slots := 0, locals := 22 } : Room) s m args below meth c H locs 0 0 (MQ below (az_QI g (az_cM g ad V) o A) args s 0 0 A) (F0 m 8 ls []) := by
    intro n
    induction n with
    | zero => intro y3 y4 H locs ls h; exact az_non h
    | succ n ih =>
      intro y3 y4 H locs ls h hP hD hS hl
      rw [FX7_inState_L8_s] at h
      refine lv_iload hx hb dX7_inState_8 (lv_at hl 4 rfl) ?_
      refine lv_bipush (v := (16 : Int32)) hx hb dX7_inState_10 (by decide) ?_
      refine lv_iload_n hx hb dX7_inState_12 rfl (lv_at hl 1 rfl) ?_
      refine lv_imul hx hb dX7_inState_13 ?_
      refine lv_aload_n hx hb dX7_inState_14 rfl (lv_at hl 0 rfl) ?_
      refine va_get (D := g.1) (ci := 7) (v := .ref (ad 1)) (C := RX7) (T := TX7) (N := 5) hx hb hts inX7_inState_RX7 hown hK hP 0 rfl rfl 0 (Nat.le_of_ble_eq_true rfl) (hts _ (List.mem_of_getElem? (i := 1) rfl)) (fun _ h9 => h9) rfl dX7_inState_15 ?_
      refine lv_iconst (v := (1 : Int32)) hx hb dX7_inState_18 (by decide) ?_
      refine va_iald (D := g.1) (f := (V 0)) hx hb hK hP 1 0 rfl rfl (az_vin (by decide +kernel)) dX7_inState_19 ?_
      refine lv_iadd hx hb dX7_inState_20 ?_
      refine lv_icmp_ge (tgt := 49) hx hb dX7_inState_21 (by decide) (fun c21 => ?_) (fun c21 => ?_)
      · replace h := az_pos c21 h
        refine lv_iload_n hx hb dX7_inState_49 rfl (lv_at hl 3 rfl) ?_
        have hP : va_P g.1 az_cl (az_cM g ad V) _ := hP
        have hD : va_D A (az_cM g ad V) := hD
        rw [← Option.some.inj h]
        exact az_iret hx hb hr hlocks hK hP hD hS dX7_inState_50
      · replace h := az_neg c21 h
        refine lv_iload_n hx hb dX7_inState_24 rfl (lv_at hl 3 rfl) ?_
        refine lv_aload_n hx hb dX7_inState_25 rfl (lv_at hl 0 rfl) ?_
        refine lv_iload hx hb dX7_inState_26 (lv_at hl 4 rfl) ?_
        refine lv_iconst (v := (0 : Int32)) hx hb dX7_inState_28 (by decide) ?_
        obtain ⟨o29, hc29, h⟩ := az_bnd h
        refine az_callVi (w2 := az_cM g ad V) (As := [.int y4, .int (0 : Int32)]) (rest := [.int y3]) ⟨hx, hb, hml, hown, hts⟩ hl.1 (kX7_ofBlock l g ad V y4 (0 : Int32) o29 hc29) (cwV 2 hts gX7_inState_X7_ofBlock rfl rfl rfl (by decide +kernel) ⟨Nat.le_of_ble_eq_true rfl, Nat.le_of_ble_eq_true rfl⟩) rfl hK hP hD hS hA [0, 1, 2, 3] [] [0, 1, 2, 3] rfl rfl rfl rfl rfl (by decide) rfl rfl rfl 0 rfl rfl rfl (Nat.le_of_ble_eq_true rfl) dX7_inState_29 ⟨Nat.zero_le _, Nat.zero_le _⟩ rfl (fun H locs hP hD hS => ?_)
        refine lv_iload_n hx hb dX7_inState_32 rfl (lv_at hl 2 rfl) ?_
        refine lv_icmp_ne (tgt := 40) hx hb dX7_inState_33 (by decide) (fun c33 => ?_) (fun c33 => ?_)
        · replace h := az_neg c33 h
          refine lv_iconst (v := (0 : Int32)) hx hb dX7_inState_40 (by decide) ?_
          refine lv_iadd hx hb dX7_inState_41 ?_
          refine lv_istore_n (lv' := [(3, .int (y3 + (0 : Int32))), (0, .ref (ad 0)), (1, .int x1), (2, .int x2), (4, .int y4)]) hx hb dX7_inState_42 rfl hl (by decide) rfl (fun ls hl => ?_)
          refine lv_iinc (v := y4 + (1 : Int32)) (lv' := [(4, .int (y4 + (1 : Int32))), (3, .int (y3 + (0 : Int32))), (0, .ref (ad 0)), (1, .int x1), (2, .int x2)]) hx hb dX7_inState_43 hl (k := 4) rfl (rfl) (by decide) rfl (fun ls hl => ?_)
          refine lv_goto (tgt := 8) hx hb dX7_inState_46 (by decide) ?_
          have hP : va_P g.1 az_cl (az_cM g ad V) _ := hP
          have hD : va_D A (az_cM g ad V) := hD
          exact ih (y3 + (0 : Int32)) (y4 + (1 : Int32)) _ _ ls h hP hD hS (lv_sub hl [2, 3, 4, 1, 0] rfl)
        · replace h := az_pos c33 h
          refine lv_iconst (v := (1 : Int32)) hx hb dX7_inState_36 (by decide) ?_
          refine lv_goto (tgt := 41) hx hb dX7_inState_37 (by decide) ?_
          refine lv_iadd hx hb dX7_inState_41 ?_
          refine lv_istore_n (lv' := [(3, .int (y3 + (1 : Int32))), (0, .ref (ad 0)), (1, .int x1), (2, .int x2), (4, .int y4)]) hx hb dX7_inState_42 rfl hl (by decide) rfl (fun ls hl => ?_)
          refine lv_iinc (v := y4 + (1 : Int32)) (lv' := [(4, .int (y4 + (1 : Int32))), (3, .int (y3 + (1 : Int32))), (0, .ref (ad 0)), (1, .int x1), (2, .int x2)]) hx hb dX7_inState_43 hl (k := 4) rfl (rfl) (by decide) rfl (fun ls hl => ?_)
          refine lv_goto (tgt := 8) hx hb dX7_inState_46 (by decide) ?_
          have hP : va_P g.1 az_cl (az_cM g ad V) _ := hP
          have hD : va_D A (az_cM g ad V) := hD
          exact ih (y3 + (1 : Int32)) (y4 + (1 : Int32)) _ _ ls h hP hD hS (lv_sub hl [2, 3, 4, 1, 0] rfl)
  refine lv_iconst (v := (0 : Int32)) hx hb dX7_inState_0 (by decide) ?_
  refine lv_istore_n (lv' := [(3, .int (0 : Int32)), (0, .ref (ad 0)), (1, .int x1), (2, .int x2)]) hx hb dX7_inState_1 rfl hl (by decide) rfl (fun ls hl => ?_)
  refine lv_bipush (v := (16 : Int32)) hx hb dX7_inState_2 (by decide) ?_
  refine lv_iload_n hx hb dX7_inState_4 rfl (lv_at hl 2 rfl) ?_
  refine lv_imul hx hb dX7_inState_5 ?_
  refine lv_istore (lv' := [(4, .int ((16 : Int32) * x1)), (3, .int (0 : Int32)), (0, .ref (ad 0)), (1, .int x1), (2, .int x2)]) hx hb dX7_inState_6 hl (by decide) rfl (fun ls hl => ?_)
  have hP : va_P g.1 az_cl (az_cM g ad V) _ := hP
  have hD : va_D A (az_cM g ad V) := hD
  exact hL8 az_fuel (0 : Int32) ((16 : Int32) * x1) _ _ ls h hP hD hS (lv_sub hl [2, 3, 4, 1, 0] rfl)

def FX7_allIn_L4 : Nat → az_St → Int32 → Int32 → Int32 → Option (Int32)
  | 0, _, _, _, _ => none
  | n + 1, V, x1, y2, y3 => if (V 0) (0 : Int32).toNatClampNeg ≤ y3 then (some (y2)) else ((FX7_inState V y3 x1).bind (fun o18 => FX7_allIn_L4 n V x1 (y2 + o18) (y3 + (1 : Int32))))
theorem FX7_allIn_L4_s (n : Nat) (V : az_St) (x1 : Int32) (y2 : Int32) (y3 : Int32) : FX7_allIn_L4 (n + 1) V x1 y2 y3 = (if (V 0) (0 : Int32).toNatClampNeg ≤ y3 then (some (y2)) else ((FX7_inState V y3 x1).bind (fun o18 => FX7_allIn_L4 n V x1 (y2 + o18) (y3 + (1 : Int32))))) := rfl
def FX7_allIn (V : az_St) (x1 : Int32) : Option (Int32) := FX7_allIn_L4 az_fuel V x1 (0 : Int32) (0 : Int32)
theorem inX7_allIn_RX7 : ∀ w ∈ wsX70, w ∈ wsX7_allIn := az_inr [11, 12, 13, 14, 15] (by decide +kernel)
set_option maxHeartbeats 4000000 in
set_option maxRecDepth 100000 in
theorem kX7_allIn (l : Launch) (g : az_G) (ad : Nat → Nat) (V : az_St) (x1 : Int32) (o : Int32) (h : FX7_allIn V x1 = some o) : az_I l yX7_allIn wsX7_allIn ({ frames := 2, cells := 0, slots := 0, locals := 46 } : Room) [.ref (ad 0), .int x1] g (az_cM g ad V) o (az_cM g ad V) := by
  refine az_body (cc := cX7_allIn) (maxL := 4) (ret := (some .int)) (Qc := fun A => az_QI g (az_cM g ad V) o A) (by decide +kernel) rfl (Nat.le_of_ble_eq_true rfl) ?_
  intro p e s m args below meth c A hx hb hr hts hown hml hlocks hA hK hP hD hS ls hl
  have hl : lv_has ls 4 [(0, .ref (ad 0)), (1, .int x1)] := hl
  unfold FX7_allIn at h
  have hL4 : ∀ (n : Nat) (y2 : Int32) (y3 : Int32) (H : Heap) (locs : List Loc) (ls : Array Slot), FX7_allIn_L4 n V x1 y2 y3 = some o → va_P g.1 az_cl (az_cM g ad V) H → va_D A (az_cM g ad V) → va_S A s.heap H locs → lv_has ls 4 [(0, .ref (ad 0)), (1, .int x1), (2, .int y2), (3, .int y3)] → W p l e ({ frames := 2, cells := 0, slots := 0, locals := 46 } : Room) s m args below meth c H locs 0 0 (MQ below (az_QI g (az_cM g ad V) o A) args s 0 0 A) (F0 m 4 ls []) := by
    intro n
    induction n with
    | zero => intro y2 y3 H locs ls h; exact az_non h
    | succ n ih =>
      intro y2 y3 H locs ls h hP hD hS hl
      rw [FX7_allIn_L4_s] at h
      refine lv_iload_n hx hb dX7_allIn_4 rfl (lv_at hl 3 rfl) ?_
      refine lv_aload_n hx hb dX7_allIn_5 rfl (lv_at hl 0 rfl) ?_
      refine va_get (D := g.1) (ci := 7) (v := .ref (ad 1)) (C := RX7) (T := TX7) (N := 5) hx hb hts inX7_allIn_RX7 hown hK hP 0 rfl rfl 0 (Nat.le_of_ble_eq_true rfl) (hts _ (List.mem_of_getElem? (i := 1) rfl)) (fun _ h9 => h9) rfl dX7_allIn_6 ?_
      refine lv_iconst (v := (0 : Int32)) hx hb dX7_allIn_9 (by decide) ?_
      refine va_iald (D := g.1) (f := (V 0)) hx hb hK hP 1 0 rfl rfl (az_vin (by decide +kernel)) dX7_allIn_10 ?_
      refine lv_icmp_ge (tgt := 29) hx hb dX7_allIn_11 (by decide) (fun c11 => ?_) (fun c11 => ?_)
      · replace h := az_pos c11 h
        refine lv_iload_n hx hb dX7_allIn_29 rfl (lv_at hl 2 rfl) ?_
        have hP : va_P g.1 az_cl (az_cM g ad V) _ := hP
        have hD : va_D A (az_cM g ad V) := hD
        rw [← Option.some.inj h]
        exact az_iret hx hb hr hlocks hK hP hD hS dX7_allIn_30
      · replace h := az_neg c11 h
        refine lv_iload_n hx hb dX7_allIn_14 rfl (lv_at hl 2 rfl) ?_
        refine lv_aload_n hx hb dX7_allIn_15 rfl (lv_at hl 0 rfl) ?_
        refine lv_iload_n hx hb dX7_allIn_16 rfl (lv_at hl 3 rfl) ?_
        refine lv_iload_n hx hb dX7_allIn_17 rfl (lv_at hl 1 rfl) ?_
        obtain ⟨o18, hc18, h⟩ := az_bnd h
        refine az_callVi (w2 := az_cM g ad V) (As := [.int y3, .int x1]) (rest := [.int y2]) ⟨hx, hb, hml, hown, hts⟩ hl.1 (kX7_inState l g ad V y3 x1 o18 hc18) (cwV 2 hts gX7_allIn_X7_inState rfl rfl rfl (by decide +kernel) ⟨Nat.le_of_ble_eq_true rfl, Nat.le_of_ble_eq_true rfl⟩) rfl hK hP hD hS hA [0, 1, 2, 3] [] [0, 1, 2, 3] rfl rfl rfl rfl rfl (by decide) rfl rfl rfl 0 rfl rfl rfl (Nat.le_of_ble_eq_true rfl) dX7_allIn_18 ⟨Nat.zero_le _, Nat.zero_le _⟩ rfl (fun H locs hP hD hS => ?_)
        refine lv_iadd hx hb dX7_allIn_21 ?_
        refine lv_istore_n (lv' := [(2, .int (y2 + o18)), (0, .ref (ad 0)), (1, .int x1), (3, .int y3)]) hx hb dX7_allIn_22 rfl hl (by decide) rfl (fun ls hl => ?_)
        refine lv_iinc (v := y3 + (1 : Int32)) (lv' := [(3, .int (y3 + (1 : Int32))), (2, .int (y2 + o18)), (0, .ref (ad 0)), (1, .int x1)]) hx hb dX7_allIn_23 hl (k := 3) rfl (rfl) (by decide) rfl (fun ls hl => ?_)
        refine lv_goto (tgt := 4) hx hb dX7_allIn_26 (by decide) ?_
        have hP : va_P g.1 az_cl (az_cM g ad V) _ := hP
        have hD : va_D A (az_cM g ad V) := hD
        exact ih (y2 + o18) (y3 + (1 : Int32)) _ _ ls h hP hD hS (lv_sub hl [2, 3, 1, 0] rfl)
  refine lv_iconst (v := (0 : Int32)) hx hb dX7_allIn_0 (by decide) ?_
  refine lv_istore_n (lv' := [(2, .int (0 : Int32)), (0, .ref (ad 0)), (1, .int x1)]) hx hb dX7_allIn_1 rfl hl (by decide) rfl (fun ls hl => ?_)
  refine lv_iconst (v := (0 : Int32)) hx hb dX7_allIn_2 (by decide) ?_
  refine lv_istore_n (lv' := [(3, .int (0 : Int32)), (2, .int (0 : Int32)), (0, .ref (ad 0)), (1, .int x1)]) hx hb dX7_allIn_3 rfl hl (by decide) rfl (fun ls hl => ?_)
  have hP : va_P g.1 az_cl (az_cM g ad V) _ := hP
  have hD : va_D A (az_cM g ad V) := hD
  exact hL4 az_fuel (0 : Int32) (0 : Int32) _ _ ls h hP hD hS (lv_sub hl [2, 3, 1, 0] rfl)

def FX7_blocks (V : az_St) (x1 : Int32) : Option (Int32 × (Nat → Int32)) := (FX7_isIn x1.toInt64 (0 : Int64) (4 : Int64)).bind (fun o7 => if o7 = (0 : Int32) then (az_lt (upd (V 2) 1 (1 : Int32)) (fun u18 => if u18 1 ≤ (0 : Int32) then ((FX7_allIn (va_up V 2 u18) x1).bind (fun o34 => some (o34, u18))) else (some ((0 : Int32), u18)))) else (az_lt (upd (V 2) 1 (0 : Int32)) (fun u18 => if u18 1 ≤ (0 : Int32) then ((FX7_allIn (va_up V 2 u18) x1).bind (fun o34 => some (o34, u18))) else (some ((0 : Int32), u18)))))
theorem inX7_blocks_RX7 : ∀ w ∈ wsX70, w ∈ wsX7_blocks := az_inr [20, 21, 22, 23, 24] (by decide +kernel)
set_option maxHeartbeats 4000000 in
set_option maxRecDepth 100000 in
theorem kX7_blocks (l : Launch) (g : az_G) (ad : Nat → Nat) (V : az_St) (x1 : Int32) (o : Int32 × (Nat → Int32)) (h : FX7_blocks V x1 = some o) : az_I l yX7_blocks wsX7_blocks ({ frames := 3, cells := 0, slots := 0, locals := 69 } : Room) [.ref (ad 0), .int x1] g (az_cM g ad V) o.1 (az_cM g ad (va_up V 2 o.2)) := by
  refine az_body (cc := cX7_blocks) (maxL := 2) (ret := (some .int)) (Qc := fun A => az_QI g (az_cM g ad (va_up V 2 o.2)) o.1 A) (by decide +kernel) rfl (Nat.le_of_ble_eq_true rfl) ?_
  intro p e s m args below meth c A hx hb hr hts hown hml hlocks hA hK hP hD hS ls hl
  have hl : lv_has ls 2 [(0, .ref (ad 0)), (1, .int x1)] := hl
  unfold FX7_blocks at h
  refine lv_aload_n hx hb dX7_blocks_0 rfl (lv_at hl 0 rfl) ?_
  refine lv_iload_n hx hb dX7_blocks_1 rfl (lv_at hl 1 rfl) ?_
  refine lv_i2l (v := x1.toInt64) hx hb dX7_blocks_2 rfl ?_
  refine lv_lconst (v := (0 : Int64)) hx hb dX7_blocks_3 (by decide) ?_
  refine lv_ldc2 (v := (4 : Int64)) hx hb hown (hts _ (List.mem_of_getElem? (i := 1) rfl)) dX7_blocks_4 ?_
  obtain ⟨o7, hc7, h⟩ := az_bnd h
  refine az_callS0 (As := [.long x1.toInt64, .long (0 : Int64), .long (4 : Int64)]) (rest := [.ref (ad 0)]) ⟨hx, hb, hml, hown, hts⟩ hl.1 (kX7_isIn l g x1.toInt64 (0 : Int64) (4 : Int64) o7 hc7) (va_cwS 3 hts gX7_blocks_X7_isIn rfl rfl rfl (by decide +kernel) ⟨Nat.le_of_ble_eq_true rfl, Nat.le_of_ble_eq_true rfl⟩) rfl hK hP hS hA (Nat.le_of_ble_eq_true rfl) dX7_blocks_7 ⟨Nat.zero_le _, Nat.zero_le _⟩ rfl (fun H locs hP hS => ?_)
  refine lv_if_eq (tgt := 17) hx hb dX7_blocks_10 (by decide) (fun c10 => ?_) (fun c10 => ?_)
  · replace h := az_pos c10 h
    refine lv_iconst (v := (1 : Int32)) hx hb dX7_blocks_17 (by decide) ?_
    refine va_put (D := g.1) (ci := 7) (v := .int (1 : Int32)) (ty := .int) (C := RX7) (T := TX7) (N := 5) hx hb hts inX7_blocks_RX7 tyX7 tyX7_ok nmX7 hown hK hP hD hS 0 rfl rfl 3 (Nat.le_of_ble_eq_true rfl) (hts _ (List.mem_of_getElem? (i := 2) rfl)) (fun _ h9 => h9) rfl (by decide +kernel) rfl rfl (Nat.le_of_ble_eq_true rfl) dX7_blocks_18 (fun H locs hP hD hS => ?_)
    obtain ⟨u18, e18⟩ : ∃ w : Nat → Int32, w = upd (V 2) 1 (1 : Int32) := ⟨_, rfl⟩
    have hP : va_P g.1 az_cl (az_cM g ad (va_up V 2 u18)) H := by rw [e18]; exact hP
    have hD : va_D A (az_cM g ad (va_up V 2 u18)) := by rw [e18]; exact hD
    replace h := az_let e18 h
    refine lv_aload_n hx hb dX7_blocks_21 rfl (lv_at hl 0 rfl) ?_
    refine va_get (D := g.1) (ci := 7) (v := .int (u18 1)) (C := RX7) (T := TX7) (N := 5) hx hb hts inX7_blocks_RX7 hown hK hP 0 rfl rfl 3 (Nat.le_of_ble_eq_true rfl) (hts _ (List.mem_of_getElem? (i := 2) rfl)) (fun _ h9 => h9) rfl dX7_blocks_22 ?_
    refine lv_if_le (tgt := 32) hx hb dX7_blocks_25 (by decide) (fun c25 => ?_) (fun c25 => ?_)
    · replace h := az_pos c25 h
      refine lv_aload_n hx hb dX7_blocks_32 rfl (lv_at hl 0 rfl) ?_
      refine lv_iload_n hx hb dX7_blocks_33 rfl (lv_at hl 1 rfl) ?_
      obtain ⟨o34, hc34, h⟩ := az_bnd h
      refine az_callVi (w2 := az_cM g ad (va_up V 2 u18)) (As := [.int x1]) (rest := []) ⟨hx, hb, hml, hown, hts⟩ hl.1 (kX7_allIn l g ad (va_up V 2 u18) x1 o34 hc34) (cwV 1 hts gX7_blocks_X7_allIn rfl rfl rfl (by decide +kernel) ⟨Nat.le_of_ble_eq_true rfl, Nat.le_of_ble_eq_true rfl⟩) rfl hK hP hD hS hA [0, 1, 2, 3] [] [0, 1, 2, 3] rfl rfl rfl rfl rfl (by decide) rfl rfl rfl 0 rfl rfl rfl (Nat.le_of_ble_eq_true rfl) dX7_blocks_34 ⟨Nat.zero_le _, Nat.zero_le _⟩ rfl (fun H locs hP hD hS => ?_)
      have hP : va_P g.1 az_cl (az_cM g ad (va_up V 2 u18)) _ := hP
      have hD : va_D A (az_cM g ad (va_up V 2 u18)) := hD
      rw [← Option.some.inj h]
      exact az_iret hx hb hr hlocks hK hP hD hS dX7_blocks_37
    · replace h := az_neg c25 h
      refine lv_iconst (v := (0 : Int32)) hx hb dX7_blocks_28 (by decide) ?_
      refine lv_goto (tgt := 37) hx hb dX7_blocks_29 (by decide) ?_
      have hP : va_P g.1 az_cl (az_cM g ad (va_up V 2 u18)) _ := hP
      have hD : va_D A (az_cM g ad (va_up V 2 u18)) := hD
      rw [← Option.some.inj h]
      exact az_iret hx hb hr hlocks hK hP hD hS dX7_blocks_37
  · replace h := az_neg c10 h
    refine lv_iconst (v := (0 : Int32)) hx hb dX7_blocks_13 (by decide) ?_
    refine lv_goto (tgt := 18) hx hb dX7_blocks_14 (by decide) ?_
    refine va_put (D := g.1) (ci := 7) (v := .int (0 : Int32)) (ty := .int) (C := RX7) (T := TX7) (N := 5) hx hb hts inX7_blocks_RX7 tyX7 tyX7_ok nmX7 hown hK hP hD hS 0 rfl rfl 3 (Nat.le_of_ble_eq_true rfl) (hts _ (List.mem_of_getElem? (i := 2) rfl)) (fun _ h9 => h9) rfl (by decide +kernel) rfl rfl (Nat.le_of_ble_eq_true rfl) dX7_blocks_18 (fun H locs hP hD hS => ?_)
    obtain ⟨u18, e18⟩ : ∃ w : Nat → Int32, w = upd (V 2) 1 (0 : Int32) := ⟨_, rfl⟩
    have hP : va_P g.1 az_cl (az_cM g ad (va_up V 2 u18)) H := by rw [e18]; exact hP
    have hD : va_D A (az_cM g ad (va_up V 2 u18)) := by rw [e18]; exact hD
    replace h := az_let e18 h
    refine lv_aload_n hx hb dX7_blocks_21 rfl (lv_at hl 0 rfl) ?_
    refine va_get (D := g.1) (ci := 7) (v := .int (u18 1)) (C := RX7) (T := TX7) (N := 5) hx hb hts inX7_blocks_RX7 hown hK hP 0 rfl rfl 3 (Nat.le_of_ble_eq_true rfl) (hts _ (List.mem_of_getElem? (i := 2) rfl)) (fun _ h9 => h9) rfl dX7_blocks_22 ?_
    refine lv_if_le (tgt := 32) hx hb dX7_blocks_25 (by decide) (fun c25 => ?_) (fun c25 => ?_)
    · replace h := az_pos c25 h
      refine lv_aload_n hx hb dX7_blocks_32 rfl (lv_at hl 0 rfl) ?_
      refine lv_iload_n hx hb dX7_blocks_33 rfl (lv_at hl 1 rfl) ?_
      obtain ⟨o34, hc34, h⟩ := az_bnd h
      refine az_callVi (w2 := az_cM g ad (va_up V 2 u18)) (As := [.int x1]) (rest := []) ⟨hx, hb, hml, hown, hts⟩ hl.1 (kX7_allIn l g ad (va_up V 2 u18) x1 o34 hc34) (cwV 1 hts gX7_blocks_X7_allIn rfl rfl rfl (by decide +kernel) ⟨Nat.le_of_ble_eq_true rfl, Nat.le_of_ble_eq_true rfl⟩) rfl hK hP hD hS hA [0, 1, 2, 3] [] [0, 1, 2, 3] rfl rfl rfl rfl rfl (by decide) rfl rfl rfl 0 rfl rfl rfl (Nat.le_of_ble_eq_true rfl) dX7_blocks_34 ⟨Nat.zero_le _, Nat.zero_le _⟩ rfl (fun H locs hP hD hS => ?_)
      have hP : va_P g.1 az_cl (az_cM g ad (va_up V 2 u18)) _ := hP
      have hD : va_D A (az_cM g ad (va_up V 2 u18)) := hD
      rw [← Option.some.inj h]
      exact az_iret hx hb hr hlocks hK hP hD hS dX7_blocks_37
    · replace h := az_neg c25 h
      refine lv_iconst (v := (0 : Int32)) hx hb dX7_blocks_28 (by decide) ?_
      refine lv_goto (tgt := 37) hx hb dX7_blocks_29 (by decide) ?_
      have hP : va_P g.1 az_cl (az_cM g ad (va_up V 2 u18)) _ := hP
      have hD : va_D A (az_cM g ad (va_up V 2 u18)) := hD
      rw [← Option.some.inj h]
      exact az_iret hx hb hr hlocks hK hP hD hS dX7_blocks_37

def FX7_useOf (V : az_St) (x1 : Int32) : Option (Int32) := (FX7_inState V x1 (1 : Int32)).bind (fun o3 => (FX7_inState V x1 (2 : Int32)).bind (fun o9 => some (o3 + o9)))
set_option maxHeartbeats 4000000 in
set_option maxRecDepth 100000 in
theorem kX7_useOf (l : Launch) (g : az_G) (ad : Nat → Nat) (V : az_St) (x1 : Int32) (o : Int32) (h : FX7_useOf V x1 = some o) : az_I l yX7_useOf wsX7_useOf ({ frames := 2, cells := 0, slots := 0, locals := 46 } : Room) [.ref (ad 0), .int x1] g (az_cM g ad V) o (az_cM g ad V) := by
  refine az_body (cc := cX7_useOf) (maxL := 2) (ret := (some .int)) (Qc := fun A => az_QI g (az_cM g ad V) o A) (by decide +kernel) rfl (Nat.le_of_ble_eq_true rfl) ?_
  intro p e s m args below meth c A hx hb hr hts hown hml hlocks hA hK hP hD hS ls hl
  have hl : lv_has ls 2 [(0, .ref (ad 0)), (1, .int x1)] := hl
  unfold FX7_useOf at h
  refine lv_aload_n hx hb dX7_useOf_0 rfl (lv_at hl 0 rfl) ?_
  refine lv_iload_n hx hb dX7_useOf_1 rfl (lv_at hl 1 rfl) ?_
  refine lv_iconst (v := (1 : Int32)) hx hb dX7_useOf_2 (by decide) ?_
  obtain ⟨o3, hc3, h⟩ := az_bnd h
  refine az_callVi (w2 := az_cM g ad V) (As := [.int x1, .int (1 : Int32)]) (rest := []) ⟨hx, hb, hml, hown, hts⟩ hl.1 (kX7_inState l g ad V x1 (1 : Int32) o3 hc3) (cwV 2 hts gX7_useOf_X7_inState rfl rfl rfl (by decide +kernel) ⟨Nat.le_of_ble_eq_true rfl, Nat.le_of_ble_eq_true rfl⟩) rfl hK hP hD hS hA [0, 1, 2, 3] [] [0, 1, 2, 3] rfl rfl rfl rfl rfl (by decide) rfl rfl rfl 0 rfl rfl rfl (Nat.le_of_ble_eq_true rfl) dX7_useOf_3 ⟨Nat.zero_le _, Nat.zero_le _⟩ rfl (fun H locs hP hD hS => ?_)
  refine lv_aload_n hx hb dX7_useOf_6 rfl (lv_at hl 0 rfl) ?_
  refine lv_iload_n hx hb dX7_useOf_7 rfl (lv_at hl 1 rfl) ?_
  refine lv_iconst (v := (2 : Int32)) hx hb dX7_useOf_8 (by decide) ?_
  obtain ⟨o9, hc9, h⟩ := az_bnd h
  refine az_callVi (w2 := az_cM g ad V) (As := [.int x1, .int (2 : Int32)]) (rest := [.int o3]) ⟨hx, hb, hml, hown, hts⟩ hl.1 (kX7_inState l g ad V x1 (2 : Int32) o9 hc9) (cwV 2 hts gX7_useOf_X7_inState rfl rfl rfl (by decide +kernel) ⟨Nat.le_of_ble_eq_true rfl, Nat.le_of_ble_eq_true rfl⟩) rfl hK hP hD hS hA [0, 1, 2, 3] [] [0, 1, 2, 3] rfl rfl rfl rfl rfl (by decide) rfl rfl rfl 0 rfl rfl rfl (Nat.le_of_ble_eq_true rfl) dX7_useOf_9 ⟨Nat.zero_le _, Nat.zero_le _⟩ rfl (fun H locs hP hD hS => ?_)
  refine lv_iadd hx hb dX7_useOf_12 ?_
  have hP : va_P g.1 az_cl (az_cM g ad V) _ := hP
  have hD : va_D A (az_cM g ad V) := hD
  rw [← Option.some.inj h]
  exact az_iret hx hb hr hlocks hK hP hD hS dX7_useOf_13

def FX7_ageOf_L7 : Nat → az_St → Int32 → Int32 → Int32 → Option (Int32)
  | 0, _, _, _, _ => none
  | n + 1, V, x1, y2, y3 => (FX7_ofSegment V x1 (1 : Int32)).bind (fun o15 => if ((16 : Int32) * x1) + o15 ≤ y3 then ((FX7_ofSegment V x1 (0 : Int32)).bind (fun o52 => if o52 = (0 : Int32) then (some ((0 : Int32))) else (some (((V 0) (4 : Int32).toNatClampNeg) - y2)))) else ((FX7_ofBlock V y3 (3 : Int32)).bind (fun o25 => if o25 ≤ y2 then (FX7_ageOf_L7 n V x1 y2 (y3 + (1 : Int32))) else ((FX7_ofBlock V y3 (3 : Int32)).bind (fun o35 => FX7_ageOf_L7 n V x1 o35 (y3 + (1 : Int32)))))))
theorem FX7_ageOf_L7_s (n : Nat) (V : az_St) (x1 : Int32) (y2 : Int32) (y3 : Int32) : FX7_ageOf_L7 (n + 1) V x1 y2 y3 = ((FX7_ofSegment V x1 (1 : Int32)).bind (fun o15 => if ((16 : Int32) * x1) + o15 ≤ y3 then ((FX7_ofSegment V x1 (0 : Int32)).bind (fun o52 => if o52 = (0 : Int32) then (some ((0 : Int32))) else (some (((V 0) (4 : Int32).toNatClampNeg) - y2)))) else ((FX7_ofBlock V y3 (3 : Int32)).bind (fun o25 => if o25 ≤ y2 then (FX7_ageOf_L7 n V x1 y2 (y3 + (1 : Int32))) else ((FX7_ofBlock V y3 (3 : Int32)).bind (fun o35 => FX7_ageOf_L7 n V x1 o35 (y3 + (1 : Int32)))))))) := rfl
def FX7_ageOf (V : az_St) (x1 : Int32) : Option (Int32) := FX7_ageOf_L7 az_fuel V x1 (0 : Int32) ((16 : Int32) * x1)
theorem inX7_ageOf_RX7 : ∀ w ∈ wsX70, w ∈ wsX7_ageOf := az_inr [11, 12, 13, 14, 15] (by decide +kernel)
set_option maxHeartbeats 4000000 in
set_option maxRecDepth 100000 in
theorem kX7_ageOf (l : Launch) (g : az_G) (ad : Nat → Nat) (V : az_St) (x1 : Int32) (o : Int32) (h : FX7_ageOf V x1 = some o) : az_I l yX7_ageOf wsX7_ageOf ({ frames := 1, cells := 0, slots := 0, locals := 22 } : Room) [.ref (ad 0), .int x1] g (az_cM g ad V) o (az_cM g ad V) := by
  refine az_body (cc := cX7_ageOf) (maxL := 4) (ret := (some .int)) (Qc := fun A => az_QI g (az_cM g ad V) o A) (by decide +kernel) rfl (Nat.le_of_ble_eq_true rfl) ?_
  intro p e s m args below meth c A hx hb hr hts hown hml hlocks hA hK hP hD hS ls hl
  have hl : lv_has ls 4 [(0, .ref (ad 0)), (1, .int x1)] := hl
  unfold FX7_ageOf at h
  have hL7 : ∀ (n : Nat) (y2 : Int32) (y3 : Int32) (H : Heap) (locs : List Loc) (ls : Array Slot), FX7_ageOf_L7 n V x1 y2 y3 = some o → va_P g.1 az_cl (az_cM g ad V) H → va_D A (az_cM g ad V) → va_S A s.heap H locs → lv_has ls 4 [(0, .ref (ad 0)), (1, .int x1), (2, .int y2), (3, .int y3)] → W p l e ({ frames := 1, cells := 0, slots := 0, locals := 22 } : Room) s m args below meth c H locs 0 0 (MQ below (az_QI g (az_cM g ad V) o A) args s 0 0 A) (F0 m 7 ls []) := by
    intro n
    induction n with
    | zero => intro y2 y3 H locs ls h; exact az_non h
    | succ n ih =>
      intro y2 y3 H locs ls h hP hD hS hl
      rw [FX7_ageOf_L7_s] at h
      refine lv_iload_n hx hb dX7_ageOf_7 rfl (lv_at hl 3 rfl) ?_
      refine lv_bipush (v := (16 : Int32)) hx hb dX7_ageOf_8 (by decide) ?_
      refine lv_iload_n hx hb dX7_ageOf_10 rfl (lv_at hl 1 rfl) ?_
      refine lv_imul hx hb dX7_ageOf_11 ?_
      refine lv_aload_n hx hb dX7_ageOf_12 rfl (lv_at hl 0 rfl) ?_
      refine lv_iload_n hx hb dX7_ageOf_13 rfl (lv_at hl 1 rfl) ?_
      refine lv_iconst (v := (1 : Int32)) hx hb dX7_ageOf_14 (by decide) ?_
      obtain ⟨o15, hc15, h⟩ := az_bnd h
      refine az_callVi (w2 := az_cM g ad V) (As := [.int x1, .int (1 : Int32)]) (rest := [.int ((16 : Int32) * x1), .int y3]) ⟨hx, hb, hml, hown, hts⟩ hl.1 (kX7_ofSegment l g ad V x1 (1 : Int32) o15 hc15) (cwV 2 hts gX7_ageOf_X7_ofSegment rfl rfl rfl (by decide +kernel) ⟨Nat.le_of_ble_eq_true rfl, Nat.le_of_ble_eq_true rfl⟩) rfl hK hP hD hS hA [0, 1, 2, 3] [] [0, 1, 2, 3] rfl rfl rfl rfl rfl (by decide) rfl rfl rfl 0 rfl rfl rfl (Nat.le_of_ble_eq_true rfl) dX7_ageOf_15 ⟨Nat.zero_le _, Nat.zero_le _⟩ rfl (fun H locs hP hD hS => ?_)
      refine lv_iadd hx hb dX7_ageOf_18 ?_
      refine lv_icmp_ge (tgt := 49) hx hb dX7_ageOf_19 (by decide) (fun c19 => ?_) (fun c19 => ?_)
      · replace h := az_pos c19 h
        refine lv_aload_n hx hb dX7_ageOf_49 rfl (lv_at hl 0 rfl) ?_
        refine lv_iload_n hx hb dX7_ageOf_50 rfl (lv_at hl 1 rfl) ?_
        refine lv_iconst (v := (0 : Int32)) hx hb dX7_ageOf_51 (by decide) ?_
        obtain ⟨o52, hc52, h⟩ := az_bnd h
        refine az_callVi (w2 := az_cM g ad V) (As := [.int x1, .int (0 : Int32)]) (rest := []) ⟨hx, hb, hml, hown, hts⟩ hl.1 (kX7_ofSegment l g ad V x1 (0 : Int32) o52 hc52) (cwV 2 hts gX7_ageOf_X7_ofSegment rfl rfl rfl (by decide +kernel) ⟨Nat.le_of_ble_eq_true rfl, Nat.le_of_ble_eq_true rfl⟩) rfl hK hP hD hS hA [0, 1, 2, 3] [] [0, 1, 2, 3] rfl rfl rfl rfl rfl (by decide) rfl rfl rfl 0 rfl rfl rfl (Nat.le_of_ble_eq_true rfl) dX7_ageOf_52 ⟨Nat.zero_le _, Nat.zero_le _⟩ rfl (fun H locs hP hD hS => ?_)
        refine lv_if_ne (tgt := 62) hx hb dX7_ageOf_55 (by decide) (fun c55 => ?_) (fun c55 => ?_)
        · replace h := az_neg c55 h
          refine lv_aload_n hx hb dX7_ageOf_62 rfl (lv_at hl 0 rfl) ?_
          refine va_get (D := g.1) (ci := 7) (v := .ref (ad 1)) (C := RX7) (T := TX7) (N := 5) hx hb hts inX7_ageOf_RX7 hown hK hP 0 rfl rfl 0 (Nat.le_of_ble_eq_true rfl) (hts _ (List.mem_of_getElem? (i := 1) rfl)) (fun _ h9 => h9) rfl dX7_ageOf_63 ?_
          refine lv_iconst (v := (4 : Int32)) hx hb dX7_ageOf_66 (by decide) ?_
          refine va_iald (D := g.1) (f := (V 0)) hx hb hK hP 1 0 rfl rfl (az_vin (by decide +kernel)) dX7_ageOf_67 ?_
          refine lv_iload_n hx hb dX7_ageOf_68 rfl (lv_at hl 2 rfl) ?_
          refine lv_isub hx hb dX7_ageOf_69 ?_
          have hP : va_P g.1 az_cl (az_cM g ad V) _ := hP
          have hD : va_D A (az_cM g ad V) := hD
          rw [← Option.some.inj h]
          exact az_iret hx hb hr hlocks hK hP hD hS dX7_ageOf_70
        · replace h := az_pos c55 h
          refine lv_iconst (v := (0 : Int32)) hx hb dX7_ageOf_58 (by decide) ?_
          refine lv_goto (tgt := 70) hx hb dX7_ageOf_59 (by decide) ?_
          have hP : va_P g.1 az_cl (az_cM g ad V) _ := hP
          have hD : va_D A (az_cM g ad V) := hD
          rw [← Option.some.inj h]
          exact az_iret hx hb hr hlocks hK hP hD hS dX7_ageOf_70
      · replace h := az_neg c19 h
        refine lv_aload_n hx hb dX7_ageOf_22 rfl (lv_at hl 0 rfl) ?_
        refine lv_iload_n hx hb dX7_ageOf_23 rfl (lv_at hl 3 rfl) ?_
        refine lv_iconst (v := (3 : Int32)) hx hb dX7_ageOf_24 (by decide) ?_
        obtain ⟨o25, hc25, h⟩ := az_bnd h
        refine az_callVi (w2 := az_cM g ad V) (As := [.int y3, .int (3 : Int32)]) (rest := []) ⟨hx, hb, hml, hown, hts⟩ hl.1 (kX7_ofBlock l g ad V y3 (3 : Int32) o25 hc25) (cwV 2 hts gX7_ageOf_X7_ofBlock rfl rfl rfl (by decide +kernel) ⟨Nat.le_of_ble_eq_true rfl, Nat.le_of_ble_eq_true rfl⟩) rfl hK hP hD hS hA [0, 1, 2, 3] [] [0, 1, 2, 3] rfl rfl rfl rfl rfl (by decide) rfl rfl rfl 0 rfl rfl rfl (Nat.le_of_ble_eq_true rfl) dX7_ageOf_25 ⟨Nat.zero_le _, Nat.zero_le _⟩ rfl (fun H locs hP hD hS => ?_)
        refine lv_iload_n hx hb dX7_ageOf_28 rfl (lv_at hl 2 rfl) ?_
        refine lv_icmp_le (tgt := 41) hx hb dX7_ageOf_29 (by decide) (fun c29 => ?_) (fun c29 => ?_)
        · replace h := az_pos c29 h
          refine lv_iload_n hx hb dX7_ageOf_41 rfl (lv_at hl 2 rfl) ?_
          refine lv_istore_n (lv' := [(2, .int y2), (0, .ref (ad 0)), (1, .int x1), (3, .int y3)]) hx hb dX7_ageOf_42 rfl hl (by decide) rfl (fun ls hl => ?_)
          refine lv_iinc (v := y3 + (1 : Int32)) (lv' := [(3, .int (y3 + (1 : Int32))), (2, .int y2), (0, .ref (ad 0)), (1, .int x1)]) hx hb dX7_ageOf_43 hl (k := 3) rfl (rfl) (by decide) rfl (fun ls hl => ?_)
          refine lv_goto (tgt := 7) hx hb dX7_ageOf_46 (by decide) ?_
          have hP : va_P g.1 az_cl (az_cM g ad V) _ := hP
          have hD : va_D A (az_cM g ad V) := hD
          exact ih y2 (y3 + (1 : Int32)) _ _ ls h hP hD hS (lv_sub hl [2, 3, 1, 0] rfl)
        · replace h := az_neg c29 h
          refine lv_aload_n hx hb dX7_ageOf_32 rfl (lv_at hl 0 rfl) ?_
          refine lv_iload_n hx hb dX7_ageOf_33 rfl (lv_at hl 3 rfl) ?_
          refine lv_iconst (v := (3 : Int32)) hx hb dX7_ageOf_34 (by decide) ?_
          obtain ⟨o35, hc35, h⟩ := az_bnd h
          refine az_callVi (w2 := az_cM g ad V) (As := [.int y3, .int (3 : Int32)]) (rest := []) ⟨hx, hb, hml, hown, hts⟩ hl.1 (kX7_ofBlock l g ad V y3 (3 : Int32) o35 hc35) (cwV 2 hts gX7_ageOf_X7_ofBlock rfl rfl rfl (by decide +kernel) ⟨Nat.le_of_ble_eq_true rfl, Nat.le_of_ble_eq_true rfl⟩) rfl hK hP hD hS hA [0, 1, 2, 3] [] [0, 1, 2, 3] rfl rfl rfl rfl rfl (by decide) rfl rfl rfl 0 rfl rfl rfl (Nat.le_of_ble_eq_true rfl) dX7_ageOf_35 ⟨Nat.zero_le _, Nat.zero_le _⟩ rfl (fun H locs hP hD hS => ?_)
          refine lv_goto (tgt := 42) hx hb dX7_ageOf_38 (by decide) ?_
          refine lv_istore_n (lv' := [(2, .int o35), (0, .ref (ad 0)), (1, .int x1), (3, .int y3)]) hx hb dX7_ageOf_42 rfl hl (by decide) rfl (fun ls hl => ?_)
          refine lv_iinc (v := y3 + (1 : Int32)) (lv' := [(3, .int (y3 + (1 : Int32))), (2, .int o35), (0, .ref (ad 0)), (1, .int x1)]) hx hb dX7_ageOf_43 hl (k := 3) rfl (rfl) (by decide) rfl (fun ls hl => ?_)
          refine lv_goto (tgt := 7) hx hb dX7_ageOf_46 (by decide) ?_
          have hP : va_P g.1 az_cl (az_cM g ad V) _ := hP
          have hD : va_D A (az_cM g ad V) := hD
          exact ih o35 (y3 + (1 : Int32)) _ _ ls h hP hD hS (lv_sub hl [2, 3, 1, 0] rfl)
  refine lv_iconst (v := (0 : Int32)) hx hb dX7_ageOf_0 (by decide) ?_
  refine lv_istore_n (lv' := [(2, .int (0 : Int32)), (0, .ref (ad 0)), (1, .int x1)]) hx hb dX7_ageOf_1 rfl hl (by decide) rfl (fun ls hl => ?_)
  refine lv_bipush (v := (16 : Int32)) hx hb dX7_ageOf_2 (by decide) ?_
  refine lv_iload_n hx hb dX7_ageOf_4 rfl (lv_at hl 2 rfl) ?_
  refine lv_imul hx hb dX7_ageOf_5 ?_
  refine lv_istore_n (lv' := [(3, .int ((16 : Int32) * x1)), (2, .int (0 : Int32)), (0, .ref (ad 0)), (1, .int x1)]) hx hb dX7_ageOf_6 rfl hl (by decide) rfl (fun ls hl => ?_)
  have hP : va_P g.1 az_cl (az_cM g ad V) _ := hP
  have hD : va_D A (az_cM g ad V) := hD
  exact hL7 az_fuel (0 : Int32) ((16 : Int32) * x1) _ _ ls h hP hD hS (lv_sub hl [2, 3, 1, 0] rfl)
