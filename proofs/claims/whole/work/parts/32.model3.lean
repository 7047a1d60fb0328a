/-! 32.model3: printed by wip/whole/gen.py out of the printed instructions -/
def FX7_segment (V : az_St) (x1 : Int32) (x2 : Int32) : Option (Int32 × (Nat → Int32)) := (FX7_isSegment V x1).bind (fun o3 => if o3 = (0 : Int32) then (az_lt (upd (V 2) 1 (1 : Int32)) (fun u30 => if u30 1 ≤ (0 : Int32) then (if x2 = (0 : Int32) then ((FX7_ofSegment (va_up V 2 u30) x1 (0 : Int32)).bind (fun o79 => some (o79, u30))) else (if x2 = (1 : Int32) then ((FX7_useOf (va_up V 2 u30) x1).bind (fun o85 => some (o85, u30))) else (if x2 = (2 : Int32) then ((FX7_inState (va_up V 2 u30) x1 (3 : Int32)).bind (fun o92 => some (o92, u30))) else (if x2 = (3 : Int32) then ((FX7_inState (va_up V 2 u30) x1 (4 : Int32)).bind (fun o99 => some (o99, u30))) else (if x2 = (4 : Int32) then ((FX7_ofSegment (va_up V 2 u30) x1 (2 : Int32)).bind (fun o106 => some (o106, u30))) else ((FX7_ageOf (va_up V 2 u30) x1).bind (fun o112 => some (o112, u30)))))))) else (some ((0 : Int32), u30)))) else ((FX7_isIn x2.toInt64 (0 : Int64) (5 : Int64)).bind (fun o19 => if o19 = (0 : Int32) then (az_lt (upd (V 2) 1 (2 : Int32)) (fun u30 => if u30 1 ≤ (0 : Int32) then (if x2 = (0 : Int32) then ((FX7_ofSegment (va_up V 2 u30) x1 (0 : Int32)).bind (fun o79 => some (o79, u30))) else (if x2 = (1 : Int32) then ((FX7_useOf (va_up V 2 u30) x1).bind (fun o85 => some (o85, u30))) else (if x2 = (2 : Int32) then ((FX7_inState (va_up V 2 u30) x1 (3 : Int32)).bind (fun o92 => some (o92, u30))) else (if x2 = (3 : Int32) then ((FX7_inState (va_up V 2 u30) x1 (4 : Int32)).bind (fun o99 => some (o99, u30))) else (if x2 = (4 : Int32) then ((FX7_ofSegment (va_up V 2 u30) x1 (2 : Int32)).bind (fun o106 => some (o106, u30))) else ((FX7_ageOf (va_up V 2 u30) x1).bind (fun o112 => some (o112, u30)))))))) else (some ((0 : Int32), u30)))) else (az_lt (upd (V 2) 1 (0 : Int32)) (fun u30 => if u30 1 ≤ (0 : Int32) then (if x2 = (0 : Int32) then ((FX7_ofSegment (va_up V 2 u30) x1 (0 : Int32)).bind (fun o79 => some (o79, u30))) else (if x2 = (1 : Int32) then ((FX7_useOf (va_up V 2 u30) x1).bind (fun o85 => some (o85, u30))) else (if x2 = (2 : Int32) then ((FX7_inState (va_up V 2 u30) x1 (3 : Int32)).bind (fun o92 => some (o92, u30))) else (if x2 = (3 : Int32) then ((FX7_inState (va_up V 2 u30) x1 (4 : Int32)).bind (fun o99 => some (o99, u30))) else (if x2 = (4 : Int32) then ((FX7_ofSegment (va_up V 2 u30) x1 (2 : Int32)).bind (fun o106 => some (o106, u30))) else ((FX7_ageOf (va_up V 2 u30) x1).bind (fun o112 => some (o112, u30)))))))) else (some ((0 : Int32), u30)))))))
theorem inX7_segment_RX7 : ∀ w ∈ wsX70, w ∈ wsX7_segment := az_inr [32, 33, 34, 35, 36] (by decide +kernel)
set_option maxHeartbeats 4000000 in
set_option maxRecDepth 100000 in
theorem kX7_segment (l : Launch) (g : az_G) (ad : Nat → Nat) (V : az_St) (x1 : Int32) (x2 : Int32) (o : Int32 × (Nat → Int32)) (h : FX7_segment V x1 x2 = some o) : az_I l yX7_segment wsX7_segment ({ frames := 3, cells := 0, slots := 0, locals := 67 } : Room) [.ref (ad 0), .int x1, .int x2] g (az_cM g ad V) o.1 (az_cM g ad (va_up V 2 o.2)) := by
  refine az_body (cc := cX7_segment) (maxL := 3) (ret := (some .int)) (Qc := fun A => az_QI g (az_cM g ad (va_up V 2 o.2)) o.1 A) (by decide +kernel) rfl (Nat.le_of_ble_eq_true rfl) ?_
  intro p e s m args below meth c A hx hb hr hts hown hml hlocks hA hK hP hD hS ls hl
  have hl : lv_has ls 3 [(0, .ref (ad 0)), (1, .int x1), (2, .int x2)] := hl
  unfold FX7_segment at h
  refine lv_aload_n hx hb dX7_segment_0 rfl (lv_at hl 0 rfl) ?_
  refine lv_aload_n hx hb dX7_segment_1 rfl (lv_at hl 0 rfl) ?_
  refine lv_iload_n hx hb dX7_segment_2 rfl (lv_at hl 1 rfl) ?_
  obtain ⟨o3, hc3, h⟩ := az_bnd h
  refine az_callVi (w2 := az_cM g ad V) (As := [.int x1]) (rest := [.ref (ad 0)]) ⟨hx, hb, hml, hown, hts⟩ hl.1 (kX7_isSegment l g ad V x1 o3 hc3) (cwV 1 hts gX7_segment_X7_isSegment rfl rfl rfl (by decide +kernel) ⟨Nat.le_of_ble_eq_true rfl, Nat.le_of_ble_eq_true rfl⟩) rfl hK hP hD hS hA [0, 1, 2, 3] [] [0, 1, 2, 3] rfl rfl rfl rfl rfl (by decide) rfl rfl rfl 0 rfl rfl rfl (Nat.le_of_ble_eq_true rfl) dX7_segment_3 ⟨Nat.zero_le _, Nat.zero_le _⟩ rfl (fun H locs hP hD hS => ?_)
  refine lv_if_ne (tgt := 13) hx hb dX7_segment_6 (by decide) (fun c6 => ?_) (fun c6 => ?_)
  · replace h := az_neg c6 h
    refine lv_iload_n hx hb dX7_segment_13 rfl (lv_at hl 2 rfl) ?_
    refine lv_i2l (v := x2.toInt64) hx hb dX7_segment_14 rfl ?_
    refine lv_lconst (v := (0 : Int64)) hx hb dX7_segment_15 (by decide) ?_
    refine lv_ldc2 (v := (5 : Int64)) hx hb hown (hts _ (List.mem_of_getElem? (i := 1) rfl)) dX7_segment_16 ?_
    obtain ⟨o19, hc19, h⟩ := az_bnd h
    refine az_callS0 (As := [.long x2.toInt64, .long (0 : Int64), .long (5 : Int64)]) (rest := [.ref (ad 0)]) ⟨hx, hb, hml, hown, hts⟩ hl.1 (kX7_isIn l g x2.toInt64 (0 : Int64) (5 : Int64) o19 hc19) (va_cwS 3 hts gX7_segment_X7_isIn rfl rfl rfl (by decide +kernel) ⟨Nat.le_of_ble_eq_true rfl, Nat.le_of_ble_eq_true rfl⟩) rfl hK hP hS hA (Nat.le_of_ble_eq_true rfl) dX7_segment_19 ⟨Nat.zero_le _, Nat.zero_le _⟩ rfl (fun H locs hP hS => ?_)
    refine lv_if_ne (tgt := 29) hx hb dX7_segment_22 (by decide) (fun c22 => ?_) (fun c22 => ?_)
    · replace h := az_neg c22 h
      refine lv_iconst (v := (0 : Int32)) hx hb dX7_segment_29 (by decide) ?_
      refine va_put (D := g.1) (ci := 7) (v := .int (0 : Int32)) (ty := .int) (C := RX7) (T := TX7) (N := 5) hx hb hts inX7_segment_RX7 tyX7 tyX7_ok nmX7 hown hK hP hD hS 0 rfl rfl 3 (Nat.le_of_ble_eq_true rfl) (hts _ (List.mem_of_getElem? (i := 2) rfl)) (fun _ h9 => h9) rfl (by decide +kernel) rfl rfl (Nat.le_of_ble_eq_true rfl) dX7_segment_30 (fun H locs hP hD hS => ?_)
      obtain ⟨u30, e30⟩ : ∃ w : Nat → Int32, w = upd (V 2) 1 (0 : Int32) := ⟨_, rfl⟩
      have hP : va_P g.1 az_cl (az_cM g ad (va_up V 2 u30)) H := by rw [e30]; exact hP
      have hD : va_D A (az_cM g ad (va_up V 2 u30)) := by rw [e30]; exact hD
      replace h := az_let e30 h
      refine lv_aload_n hx hb dX7_segment_33 rfl (lv_at hl 0 rfl) ?_
      refine va_get (D := g.1) (ci := 7) (v := .int (u30 1)) (C := RX7) (T := TX7) (N := 5) hx hb hts inX7_segment_RX7 hown hK hP 0 rfl rfl 3 (Nat.le_of_ble_eq_true rfl) (hts _ (List.mem_of_getElem? (i := 2) rfl)) (fun _ h9 => h9) rfl dX7_segment_34 ?_
      refine lv_if_le (tgt := 42) hx hb dX7_segment_37 (by decide) (fun c37 => ?_) (fun c37 => ?_)
      · replace h := az_pos c37 h
        refine lv_iload_n hx hb dX7_segment_42 rfl (lv_at hl 2 rfl) ?_
        by_cases c43_0 : x2 = (0 : Int32)
        · replace h := az_pos c43_0 h
          refine lv_tableIn (tgt := 76) (off := 33) hx hb dX7_segment_43 (by rw [c43_0]; decide) (by rw [c43_0]; decide) (by rw [c43_0]; rfl) (by decide) ?_
          refine lv_aload_n hx hb dX7_segment_76 rfl (lv_at hl 0 rfl) ?_
          refine lv_iload_n hx hb dX7_segment_77 rfl (lv_at hl 1 rfl) ?_
          refine lv_iconst (v := (0 : Int32)) hx hb dX7_segment_78 (by decide) ?_
          obtain ⟨o79, hc79, h⟩ := az_bnd h
          refine az_callVi (w2 := az_cM g ad (va_up V 2 u30)) (As := [.int x1, .int (0 : Int32)]) (rest := []) ⟨hx, hb, hml, hown, hts⟩ hl.1 (kX7_ofSegment l g ad (va_up V 2 u30) x1 (0 : Int32) o79 hc79) (cwV 2 hts gX7_segment_X7_ofSegment rfl rfl rfl (by decide +kernel) ⟨Nat.le_of_ble_eq_true rfl, Nat.le_of_ble_eq_true rfl⟩) rfl hK hP hD hS hA [0, 1, 2, 3] [] [0, 1, 2, 3] rfl rfl rfl rfl rfl (by decide) rfl rfl rfl 0 rfl rfl rfl (Nat.le_of_ble_eq_true rfl) dX7_segment_79 ⟨Nat.zero_le _, Nat.zero_le _⟩ rfl (fun H locs hP hD hS => ?_)
          have hP : va_P g.1 az_cl (az_cM g ad (va_up V 2 u30)) _ := hP
          have hD : va_D A (az_cM g ad (va_up V 2 u30)) := hD
          rw [← Option.some.inj h]
          exact az_iret hx hb hr hlocks hK hP hD hS dX7_segment_82
        · replace h := az_neg c43_0 h
          by_cases c43_1 : x2 = (1 : Int32)
          · replace h := az_pos c43_1 h
            refine lv_tableIn (tgt := 83) (off := 40) hx hb dX7_segment_43 (by rw [c43_1]; decide) (by rw [c43_1]; decide) (by rw [c43_1]; rfl) (by decide) ?_
            refine lv_aload_n hx hb dX7_segment_83 rfl (lv_at hl 0 rfl) ?_
            refine lv_iload_n hx hb dX7_segment_84 rfl (lv_at hl 1 rfl) ?_
            obtain ⟨o85, hc85, h⟩ := az_bnd h
            refine az_callVi (w2 := az_cM g ad (va_up V 2 u30)) (As := [.int x1]) (rest := []) ⟨hx, hb, hml, hown, hts⟩ hl.1 (kX7_useOf l g ad (va_up V 2 u30) x1 o85 hc85) (cwV 1 hts gX7_segment_X7_useOf rfl rfl rfl (by decide +kernel) ⟨Nat.le_of_ble_eq_true rfl, Nat.le_of_ble_eq_true rfl⟩) rfl hK hP hD hS hA [0, 1, 2, 3] [] [0, 1, 2, 3] rfl rfl rfl rfl rfl (by decide) rfl rfl rfl 0 rfl rfl rfl (Nat.le_of_ble_eq_true rfl) dX7_segment_85 ⟨Nat.zero_le _, Nat.zero_le _⟩ rfl (fun H locs hP hD hS => ?_)
            have hP : va_P g.1 az_cl (az_cM g ad (va_up V 2 u30)) _ := hP
            have hD : va_D A (az_cM g ad (va_up V 2 u30)) := hD
            rw [← Option.some.inj h]
            exact az_iret hx hb hr hlocks hK hP hD hS dX7_segment_88
          · replace h := az_neg c43_1 h
            by_cases c43_2 : x2 = (2 : Int32)
            · replace h := az_pos c43_2 h
              refine lv_tableIn (tgt := 89) (off := 46) hx hb dX7_segment_43 (by rw [c43_2]; decide) (by rw [c43_2]; decide) (by rw [c43_2]; rfl) (by decide) ?_
              refine lv_aload_n hx hb dX7_segment_89 rfl (lv_at hl 0 rfl) ?_
              refine lv_iload_n hx hb dX7_segment_90 rfl (lv_at hl 1 rfl) ?_
              refine lv_iconst (v := (3 : Int32)) hx hb dX7_segment_91 (by decide) ?_
              obtain ⟨o92, hc92, h⟩ := az_bnd h
              refine az_callVi (w2 := az_cM g ad (va_up V 2 u30)) (As := [.int x1, .int (3 : Int32)]) (rest := []) ⟨hx, hb, hml, hown, hts⟩ hl.1 (kX7_inState l g ad (va_up V 2 u30) x1 (3 : Int32) o92 hc92) (cwV 2 hts gX7_segment_X7_inState rfl rfl rfl (by decide +kernel) ⟨Nat.le_of_ble_eq_true rfl, Nat.le_of_ble_eq_true rfl⟩) rfl hK hP hD hS hA [0, 1, 2, 3] [] [0, 1, 2, 3] rfl rfl rfl rfl rfl (by decide) rfl rfl rfl 0 rfl rfl rfl (Nat.le_of_ble_eq_true rfl) dX7_segment_92 ⟨Nat.zero_le _, Nat.zero_le _⟩ rfl (fun H locs hP hD hS => ?_)
              have hP : va_P g.1 az_cl (az_cM g ad (va_up V 2 u30)) _ := hP
              have hD : va_D A (az_cM g ad (va_up V 2 u30)) := hD
              rw [← Option.some.inj h]
              exact az_iret hx hb hr hlocks hK hP hD hS dX7_segment_95
            · replace h := az_neg c43_2 h
              by_cases c43_3 : x2 = (3 : Int32)
              · replace h := az_pos c43_3 h
                refine lv_tableIn (tgt := 96) (off := 53) hx hb dX7_segment_43 (by rw [c43_3]; decide) (by rw [c43_3]; decide) (by rw [c43_3]; rfl) (by decide) ?_
                refine lv_aload_n hx hb dX7_segment_96 rfl (lv_at hl 0 rfl) ?_
                refine lv_iload_n hx hb dX7_segment_97 rfl (lv_at hl 1 rfl) ?_
                refine lv_iconst (v := (4 : Int32)) hx hb dX7_segment_98 (by decide) ?_
                obtain ⟨o99, hc99, h⟩ := az_bnd h
                refine az_callVi (w2 := az_cM g ad (va_up V 2 u30)) (As := [.int x1, .int (4 : Int32)]) (rest := []) ⟨hx, hb, hml, hown, hts⟩ hl.1 (kX7_inState l g ad (va_up V 2 u30) x1 (4 : Int32) o99 hc99) (cwV 2 hts gX7_segment_X7_inState rfl rfl rfl (by decide +kernel) ⟨Nat.le_of_ble_eq_true rfl, Nat.le_of_ble_eq_true rfl⟩) rfl hK hP hD hS hA [0, 1, 2, 3] [] [0, 1, 2, 3] rfl rfl rfl rfl rfl (by decide) rfl rfl rfl 0 rfl rfl rfl (Nat.le_of_ble_eq_true rfl) dX7_segment_99 ⟨Nat.zero_le _, Nat.zero_le _⟩ rfl (fun H locs hP hD hS => ?_)
                have hP : va_P g.1 az_cl (az_cM g ad (va_up V 2 u30)) _ := hP
                have hD : va_D A (az_cM g ad (va_up V 2 u30)) := hD
                rw [← Option.some.inj h]
                exact az_iret hx hb hr hlocks hK hP hD hS dX7_segment_102
              · replace h := az_neg c43_3 h
                by_cases c43_4 : x2 = (4 : Int32)
                · replace h := az_pos c43_4 h
                  refine lv_tableIn (tgt := 103) (off := 60) hx hb dX7_segment_43 (by rw [c43_4]; decide) (by rw [c43_4]; decide) (by rw [c43_4]; rfl) (by decide) ?_
                  refine lv_aload_n hx hb dX7_segment_103 rfl (lv_at hl 0 rfl) ?_
                  refine lv_iload_n hx hb dX7_segment_104 rfl (lv_at hl 1 rfl) ?_
                  refine lv_iconst (v := (2 : Int32)) hx hb dX7_segment_105 (by decide) ?_
                  obtain ⟨o106, hc106, h⟩ := az_bnd h
                  refine az_callVi (w2 := az_cM g ad (va_up V 2 u30)) (As := [.int x1, .int (2 : Int32)]) (rest := []) ⟨hx, hb, hml, hown, hts⟩ hl.1 (kX7_ofSegment l g ad (va_up V 2 u30) x1 (2 : Int32) o106 hc106) (cwV 2 hts gX7_segment_X7_ofSegment rfl rfl rfl (by decide +kernel) ⟨Nat.le_of_ble_eq_true rfl, Nat.le_of_ble_eq_true rfl⟩) rfl hK hP hD hS hA [0, 1, 2, 3] [] [0, 1, 2, 3] rfl rfl rfl rfl rfl (by decide) rfl rfl rfl 0 rfl rfl rfl (Nat.le_of_ble_eq_true rfl) dX7_segment_106 ⟨Nat.zero_le _, Nat.zero_le _⟩ rfl (fun H locs hP hD hS => ?_)
                  have hP : va_P g.1 az_cl (az_cM g ad (va_up V 2 u30)) _ := hP
                  have hD : va_D A (az_cM g ad (va_up V 2 u30)) := hD
                  rw [← Option.some.inj h]
                  exact az_iret hx hb hr hlocks hK hP hD hS dX7_segment_109
                · replace h := az_neg c43_4 h
                  refine lv_tableOut (tgt := 110) hx hb dX7_segment_43 (by have n0 := lv_neT (a := 0) c43_0 (by decide); have n1 := lv_neT (a := 1) c43_1 (by decide); have n2 := lv_neT (a := 2) c43_2 (by decide); have n3 := lv_neT (a := 3) c43_3 (by decide); have n4 := lv_neT (a := 4) c43_4 (by decide); omega) (by decide) ?_
                  refine lv_aload_n hx hb dX7_segment_110 rfl (lv_at hl 0 rfl) ?_
                  refine lv_iload_n hx hb dX7_segment_111 rfl (lv_at hl 1 rfl) ?_
                  obtain ⟨o112, hc112, h⟩ := az_bnd h
                  refine az_callVi (w2 := az_cM g ad (va_up V 2 u30)) (As := [.int x1]) (rest := []) ⟨hx, hb, hml, hown, hts⟩ hl.1 (kX7_ageOf l g ad (va_up V 2 u30) x1 o112 hc112) (cwV 1 hts gX7_segment_X7_ageOf rfl rfl rfl (by decide +kernel) ⟨Nat.le_of_ble_eq_true rfl, Nat.le_of_ble_eq_true rfl⟩) rfl hK hP hD hS hA [0, 1, 2, 3] [] [0, 1, 2, 3] rfl rfl rfl rfl rfl (by decide) rfl rfl rfl 0 rfl rfl rfl (Nat.le_of_ble_eq_true rfl) dX7_segment_112 ⟨Nat.zero_le _, Nat.zero_le _⟩ rfl (fun H locs hP hD hS => ?_)
                  have hP : va_P g.1 az_cl (az_cM g ad (va_up V 2 u30)) _ := hP
                  have hD : va_D A (az_cM g ad (va_up V 2 u30)) := hD
                  rw [← Option.some.inj h]
                  exact az_iret hx hb hr hlocks hK hP hD hS dX7_segment_115
      · replace h := az_neg c37 h
        refine lv_iconst (v := (0 : Int32)) hx hb dX7_segment_40 (by decide) ?_
        have hP : va_P g.1 az_cl (az_cM g ad (va_up V 2 u30)) _ := hP
        have hD : va_D A (az_cM g ad (va_up V 2 u30)) := hD
        rw [← Option.some.inj h]
        exact az_iret hx hb hr hlocks hK hP hD hS dX7_segment_41
    · replace h := az_pos c22 h
      refine lv_iconst (v := (2 : Int32)) hx hb dX7_segment_25 (by decide) ?_
      refine lv_goto (tgt := 30) hx hb dX7_segment_26 (by decide) ?_
      refine va_put (D := g.1) (ci := 7) (v := .int (2 : Int32)) (ty := .int) (C := RX7) (T := TX7) (N := 5) hx hb hts inX7_segment_RX7 tyX7 tyX7_ok nmX7 hown hK hP hD hS 0 rfl rfl 3 (Nat.le_of_ble_eq_true rfl) (hts _ (List.mem_of_getElem? (i := 2) rfl)) (fun _ h9 => h9) rfl (by decide +kernel) rfl rfl (Nat.le_of_ble_eq_true rfl) dX7_segment_30 (fun H locs hP hD hS => ?_)
      obtain ⟨u30, e30⟩ : ∃ w : Nat → Int32, w = upd (V 2) 1 (2 : Int32) := ⟨_, rfl⟩
      have hP : va_P g.1 az_cl (az_cM g ad (va_up V 2 u30)) H := by rw [e30]; exact hP
      have hD : va_D A (az_cM g ad (va_up V 2 u30)) := by rw [e30]; exact hD
      replace h := az_let e30 h
      refine lv_aload_n hx hb dX7_segment_33 rfl (lv_at hl 0 rfl) ?_
      refine va_get (D := g.1) (ci := 7) (v := .int (u30 1)) (C := RX7) (T := TX7) (N := 5) hx hb hts inX7_segment_RX7 hown hK hP 0 rfl rfl 3 (Nat.le_of_ble_eq_true rfl) (hts _ (List.mem_of_getElem? (i := 2) rfl)) (fun _ h9 => h9) rfl dX7_segment_34 ?_
      refine lv_if_le (tgt := 42) hx hb dX7_segment_37 (by decide) (fun c37 => ?_) (fun c37 => ?_)
      · replace h := az_pos c37 h
        refine lv_iload_n hx hb dX7_segment_42 rfl (lv_at hl 2 rfl) ?_
        by_cases c43_0 : x2 = (0 : Int32)
        · replace h := az_pos c43_0 h
          refine lv_tableIn (tgt := 76) (off := 33) hx hb dX7_segment_43 (by rw [c43_0]; decide) (by rw [c43_0]; decide) (by rw [c43_0]; rfl) (by decide) ?_
          refine lv_aload_n hx hb dX7_segment_76 rfl (lv_at hl 0 rfl) ?_
          refine lv_iload_n hx hb dX7_segment_77 rfl (lv_at hl 1 rfl) ?_
          refine lv_iconst (v := (0 : Int32)) hx hb dX7_segment_78 (by decide) ?_
          obtain ⟨o79, hc79, h⟩ := az_bnd h
          refine az_callVi (w2 := az_cM g ad (va_up V 2 u30)) (As := [.int x1, .int (0 : Int32)]) (rest := []) ⟨hx, hb, hml, hown, hts⟩ hl.1 (kX7_ofSegment l g ad (va_up V 2 u30) x1 (0 : Int32) o79 hc79) (cwV 2 hts gX7_segment_X7_ofSegment rfl rfl rfl (by decide +kernel) ⟨Nat.le_of_ble_eq_true rfl, Nat.le_of_ble_eq_true rfl⟩) rfl hK hP hD hS hA [0, 1, 2, 3] [] [0, 1, 2, 3] rfl rfl rfl rfl rfl (by decide) rfl rfl rfl 0 rfl rfl rfl (Nat.le_of_ble_eq_true rfl) dX7_segment_79 ⟨Nat.zero_le _, Nat.zero_le _⟩ rfl (fun H locs hP hD hS => ?_)
          have hP : va_P g.1 az_cl (az_cM g ad (va_up V 2 u30)) _ := hP
          have hD : va_D A (az_cM g ad (va_up V 2 u30)) := hD
          rw [← Option.some.inj h]
          exact az_iret hx hb hr hlocks hK hP hD hS dX7_segment_82
        · replace h := az_neg c43_0 h
          by_cases c43_1 : x2 = (1 : Int32)
          · replace h := az_pos c43_1 h
            refine lv_tableIn (tgt := 83) (off := 40) hx hb dX7_segment_43 (by rw [c43_1]; decide) (by rw [c43_1]; decide) (by rw [c43_1]; rfl) (by decide) ?_
            refine lv_aload_n hx hb dX7_segment_83 rfl (lv_at hl 0 rfl) ?_
            refine lv_iload_n hx hb dX7_segment_84 rfl (lv_at hl 1 rfl) ?_
            obtain ⟨o85, hc85, h⟩ := az_bnd h
            refine az_callVi (w2 := az_cM g ad (va_up V 2 u30)) (As := [.int x1]) (rest := []) ⟨hx, hb, hml, hown, hts⟩ hl.1 (kX7_useOf l g ad (va_up V 2 u30) x1 o85 hc85) (cwV 1 hts gX7_segment_X7_useOf rfl rfl rfl (by decide +kernel) ⟨Nat.le_of_ble_eq_true rfl, Nat.le_of_ble_eq_true rfl⟩) rfl hK hP hD hS hA [0, 1, 2, 3] [] [0, 1, 2, 3] rfl rfl rfl rfl rfl (by decide) rfl rfl rfl 0 rfl rfl rfl (Nat.le_of_ble_eq_true rfl) dX7_segment_85 ⟨Nat.zero_le _, Nat.zero_le _⟩ rfl (fun H locs hP hD hS => ?_)
            have hP : va_P g.1 az_cl (az_cM g ad (va_up V 2 u30)) _ := hP
            have hD : va_D A (az_cM g ad (va_up V 2 u30)) := hD
            rw [← Option.some.inj h]
            exact az_iret hx hb hr hlocks hK hP hD hS dX7_segment_88
          · replace h := az_neg c43_1 h
            by_cases c43_2 : x2 = (2 : Int32)
            · replace h := az_pos c43_2 h
              refine lv_tableIn (tgt := 89) (off := 46) hx hb dX7_segment_43 (by rw [c43_2]; decide) (by rw [c43_2]; decide) (by rw [c43_2]; rfl) (by decide) ?_
              refine lv_aload_n hx hb dX7_segment_89 rfl (lv_at hl 0 rfl) ?_
              refine lv_iload_n hx hb dX7_segment_90 rfl (lv_at hl 1 rfl) ?_
              refine lv_iconst (v := (3 : Int32)) hx hb dX7_segment_91 (by decide) ?_
              obtain ⟨o92, hc92, h⟩ := az_bnd h
              refine az_callVi (w2 := az_cM g ad (va_up V 2 u30)) (As := [.int x1, .int (3 : Int32)]) (rest := []) ⟨hx, hb, hml, hown, hts⟩ hl.1 (kX7_inState l g ad (va_up V 2 u30) x1 (3 : Int32) o92 hc92) (cwV 2 hts gX7_segment_X7_inState rfl rfl rfl (by decide +kernel) ⟨Nat.le_of_ble_eq_true rfl, Nat.le_of_ble_eq_true rfl⟩) rfl hK hP hD hS hA [0, 1, 2, 3] [] [0, 1, 2, 3] rfl rfl rfl rfl rfl (by decide) rfl rfl rfl 0 rfl rfl rfl (Nat.le_of_ble_eq_true rfl) dX7_segment_92 ⟨Nat.zero_le _, Nat.zero_le _⟩ rfl (fun H locs hP hD hS => ?_)
              have hP : va_P g.1 az_cl (az_cM g ad (va_up V 2 u30)) _ := hP
              have hD : va_D A (az_cM g ad (va_up V 2 u30)) := hD
              rw [← Option.some.inj h]
              exact az_iret hx hb hr hlocks hK hP hD hS dX7_segment_95
            · replace h := az_neg c43_2 h
              by_cases c43_3 : x2 = (3 : Int32)
              · replace h := az_pos c43_3 h
                refine lv_tableIn (tgt := 96) (off := 53) hx hb dX7_segment_43 (by rw [c43_3]; decide) (by rw [c43_3]; decide) (by rw [c43_3]; rfl) (by decide) ?_
                refine lv_aload_n hx hb dX7_segment_96 rfl (lv_at hl 0 rfl) ?_
                refine lv_iload_n hx hb dX7_segment_97 rfl (lv_at hl 1 rfl) ?_
                refine lv_iconst (v := (4 : Int32)) hx hb dX7_segment_98 (by decide) ?_
                obtain ⟨o99, hc99, h⟩ := az_bnd h
                refine az_callVi (w2 := az_cM g ad (va_up V 2 u30)) (As := [.int x1, .int (4 : Int32)]) (rest := []) ⟨hx, hb, hml, hown, hts⟩ hl.1 (kX7_inState l g ad (va_up V 2 u30) x1 (4 : Int32) o99 hc99) (cwV 2 hts gX7_segment_X7_inState rfl rfl rfl (by decide +kernel) ⟨Nat.le_of_ble_eq_true rfl, Nat.le_of_ble_eq_true rfl⟩) rfl hK hP hD hS hA [0, 1, 2, 3] [] [0, 1, 2, 3] rfl rfl rfl rfl rfl (by decide) rfl rfl rfl 0 rfl rfl rfl (Nat.le_of_ble_eq_true rfl) dX7_segment_99 ⟨Nat.zero_le _, Nat.zero_le _⟩ rfl (fun H locs hP hD hS => ?_)
                have hP : va_P g.1 az_cl (az_cM g ad (va_up V 2 u30)) _ := hP
                have hD : va_D A (az_cM g ad (va_up V 2 u30)) := hD
                rw [← Option.some.inj h]
                exact az_iret hx hb hr hlocks hK hP hD hS dX7_segment_102
              · replace h := az_neg c43_3 h
                by_cases c43_4 : x2 = (4 : Int32)
                · replace h := az_pos c43_4 h
                  refine lv_tableIn (tgt := 103) (off := 60) hx hb dX7_segment_43 (by rw [c43_4]; decide) (by rw [c43_4]; decide) (by rw [c43_4]; rfl) (by decide) ?_
                  refine lv_aload_n hx hb dX7_segment_103 rfl (lv_at hl 0 rfl) ?_
                  refine lv_iload_n hx hb dX7_segment_104 rfl (lv_at hl 1 rfl) ?_
                  refine lv_iconst (v := (2 : Int32)) hx hb dX7_segment_105 (by decide) ?_
                  obtain ⟨o106, hc106, h⟩ := az_bnd h
                  refine az_callVi (w2 := az_cM g ad (va_up V 2 u30)) (As := [.int x1, .int (2 : Int32)]) (rest := []) ⟨hx, hb, hml, hown, hts⟩ hl.1 (kX7_ofSegment l g ad (va_up V 2 u30) x1 (2 : Int32) o106 hc106) (cwV 2 hts gX7_segment_X7_ofSegment rfl rfl rfl (by decide +kernel) ⟨Nat.le_of_ble_eq_true rfl, Nat.le_of_ble_eq_true rfl⟩) rfl hK hP hD hS hA [0, 1, 2, 3] [] [0, 1, 2, 3] rfl rfl rfl rfl rfl (by decide) rfl rfl rfl 0 rfl rfl rfl (Nat.le_of_ble_eq_true rfl) dX7_segment_106 ⟨Nat.zero_le _, Nat.zero_le _⟩ rfl (fun H locs hP hD hS => ?_)
                  have hP : va_P g.1 az_cl (az_cM g ad (va_up V 2 u30)) _ := hP
                  have hD : va_D A (az_cM g ad (va_up V 2 u30)) := hD
                  rw [← Option.some.inj h]
                  exact az_iret hx hb hr hlocks hK hP hD hS dX7_segment_109
                · replace h := az_neg c43_4 h
                  refine lv_tableOut (tgt := 110) hx hb dX7_segment_43 (by have n0 := lv_neT (a := 0) c43_0 (by decide); have n1 := lv_neT (a := 1) c43_1 (by decide); have n2 := lv_neT (a := 2) c43_2 (by decide); have n3 := lv_neT (a := 3) c43_3 (by decide); have n4 := lv_neT (a := 4) c43_4 (by decide); omega) (by decide) ?_
                  refine lv_aload_n hx hb dX7_segment_110 rfl (lv_at hl 0 rfl) ?_
                  refine lv_iload_n hx hb dX7_segment_111 rfl (lv_at hl 1 rfl) ?_
                  obtain ⟨o112, hc112, h⟩ := az_bnd h
                  refine az_callVi (w2 := az_cM g ad (va_up V 2 u30)) (As := [.int x1]) (rest := []) ⟨hx, hb, hml, hown, hts⟩ hl.1 (kX7_ageOf l g ad (va_up V 2 u30) x1 o112 hc112) (cwV 1 hts gX7_segment_X7_ageOf rfl rfl rfl (by decide +kernel) ⟨Nat.le_of_ble_eq_true rfl, Nat.le_of_ble_eq_true rfl⟩) rfl hK hP hD hS hA [0, 1, 2, 3] [] [0, 1, 2, 3] rfl rfl rfl rfl rfl (by decide) rfl rfl rfl 0 rfl rfl rfl (Nat.le_of_ble_eq_true rfl) dX7_segment_112 ⟨Nat.zero_le _, Nat.zero_le _⟩ rfl (fun H locs hP hD hS => ?_)
                  have hP : va_P g.1 az_cl (az_cM g ad (va_up V 2 u30)) _ := hP
                  have hD : va_D A (az_cM g ad (va_up V 2 u30)) := hD
                  rw [← Option.some.inj h]
                  exact az_iret hx hb hr hlocks hK hP hD hS dX7_segment_115
      · replace h := az_neg c37 h
        refine lv_iconst (v := (0 : Int32)) hx hb dX7_segment_40 (by decide) ?_
        have hP : va_P g.1 az_cl (az_cM g ad (va_up V 2 u30)) _ := hP
        have hD : va_D A (az_cM g ad (va_up V 2 u30)) := hD
        rw [← Option.some.inj h]
        exact az_iret hx hb hr hlocks hK hP hD hS dX7_segment_41
  · replace h := az_pos c6 h
    refine lv_iconst (v := (1 : Int32)) hx hb dX7_segment_9 (by decide) ?_
    refine lv_goto (tgt := 30) hx hb dX7_segment_10 (by decide) ?_
    refine va_put (D := g.1) (ci := 7) (v := .int (1 : Int32)) (ty := .int) (C := RX7) (T := TX7) (N := 5) hx hb hts inX7_segment_RX7 tyX7 tyX7_ok nmX7 hown hK hP hD hS 0 rfl rfl 3 (Nat.le_of_ble_eq_true rfl) (hts _ (List.mem_of_getElem? (i := 2) rfl)) (fun _ h9 => h9) rfl (by decide +kernel) rfl rfl (Nat.le_of_ble_eq_true rfl) dX7_segment_30 (fun H locs hP hD hS => ?_)
    obtain ⟨u30, e30⟩ : ∃ w : Nat → Int32, w = upd (V 2) 1 (1 : Int32) := ⟨_, rfl⟩
    have hP : va_P g.1 az_cl (az_cM g ad (va_up V 2 u30)) H := by rw [e30]; exact hP
    have hD : va_D A (az_cM g ad (va_up V 2 u30)) := by rw [e30]; exact hD
    replace h := az_let e30 h
    refine lv_aload_n hx hb dX7_segment_33 rfl (lv_at hl 0 rfl) ?_
    refine va_get (D := g.1) (ci := 7) (v := .int (u30 1)) (C := RX7) (T := TX7) (N := 5) hx hb hts inX7_segment_RX7 hown hK hP 0 rfl rfl 3 (Nat.le_of_ble_eq_true rfl) (hts _ (List.mem_of_getElem? (i := 2) rfl)) (fun _ h9 => h9) rfl dX7_segment_34 ?_
    refine lv_if_le (tgt := 42) hx hb dX7_segment_37 (by decide) (fun c37 => ?_) (fun c37 => ?_)
    · replace h := az_pos c37 h
      refine lv_iload_n hx hb dX7_segment_42 rfl (lv_at hl 2 rfl) ?_
      by_cases c43_0 : x2 = (0 : Int32)
      · replace h := az_pos c43_0 h
        refine lv_tableIn (tgt := 76) (off := 33) hx hb dX7_segment_43 (by rw [c43_0]; decide) (by rw [c43_0]; decide) (by rw [c43_0]; rfl) (by decide) ?_
        refine lv_aload_n hx hb dX7_segment_76 rfl (lv_at hl 0 rfl) ?_
        refine lv_iload_n hx hb dX7_segment_77 rfl (lv_at hl 1 rfl) ?_
        refine lv_iconst (v := (0 : Int32)) hx hb dX7_segment_78 (by decide) ?_
        obtain ⟨o79, hc79, h⟩ := az_bnd h
        refine az_callVi (w2 := az_cM g ad (va_up V 2 u30)) (As := [.int x1, .int (0 : Int32)]) (rest := []) ⟨hx, hb, hml, hown, hts⟩ hl.1 (kX7_ofSegment l g ad (va_up V 2 u30) x1 (0 : Int32) o79 hc79) (cwV 2 hts gX7_segment_X7_ofSegment rfl rfl rfl (by decide +kernel) ⟨Nat.le_of_ble_eq_true rfl, Nat.le_of_ble_eq_true rfl⟩) rfl hK hP hD hS hA [0, 1, 2, 3] [] [0, 1, 2, 3] rfl rfl rfl rfl rfl (by decide) rfl rfl rfl 0 rfl rfl rfl (Nat.le_of_ble_eq_true rfl) dX7_segment_79 ⟨Nat.zero_le _, Nat.zero_le _⟩ rfl (fun H locs hP hD hS => ?_)
        have hP : va_P g.1 az_cl (az_cM g ad (va_up V 2 u30)) _ := hP
        have hD : va_D A (az_cM g ad (va_up V 2 u30)) := hD
        rw [← Option.some.inj h]
        exact az_iret hx hb hr hlocks hK hP hD hS dX7_segment_82
      · replace h := az_neg c43_0 h
        by_cases c43_1 : x2 = (1 : Int32)
        · replace h := az_pos c43_1 h
          refine lv_tableIn (tgt := 83) (off := 40) hx hb dX7_segment_43 (by rw [c43_1]; decide) (by rw [c43_1]; decide) (by rw [c43_1]; rfl) (by decide) ?_
          refine lv_aload_n hx hb dX7_segment_83 rfl (lv_at hl 0 rfl) ?_
          refine lv_iload_n hx hb dX7_segment_84 rfl (lv_at hl 1 rfl) ?_
          obtain ⟨o85, hc85, h⟩ := az_bnd h
          refine az_callVi (w2 := az_cM g ad (va_up V 2 u30)) (As := [.int x1]) (rest := []) ⟨hx, hb, hml, hown, hts⟩ hl.1 (kX7_useOf l g ad (va_up V 2 u30) x1 o85 hc85) (cwV 1 hts gX7_segment_X7_useOf rfl rfl rfl (by decide +kernel) ⟨Nat.le_of_ble_eq_true rfl, Nat.le_of_ble_eq_true rfl⟩) rfl hK hP hD hS hA [0, 1, 2, 3] [] [0, 1, 2, 3] rfl rfl rfl rfl rfl (by decide) rfl rfl rfl 0 rfl rfl rfl (Nat.le_of_ble_eq_true rfl) dX7_segment_85 ⟨Nat.zero_le _, Nat.zero_le _⟩ rfl (fun H locs hP hD hS => ?_)
          have hP : va_P g.1 az_cl (az_cM g ad (va_up V 2 u30)) _ := hP
          have hD : va_D A (az_cM g ad (va_up V 2 u30)) := hD
          rw [← Option.some.inj h]
          exact az_iret hx hb hr hlocks hK hP hD hS dX7_segment_88
        · replace h := az_neg c43_1 h
          by_cases c43_2 : x2 = (2 : Int32)
          · replace h := az_pos c43_2 h
            refine lv_tableIn (tgt := 89) (off := 46) hx hb dX7_segment_43 (by rw [c43_2]; decide) (by rw [c43_2]; decide) (by rw [c43_2]; rfl) (by decide) ?_
            refine lv_aload_n hx hb dX7_segment_89 rfl (lv_at hl 0 rfl) ?_
            refine lv_iload_n hx hb dX7_segment_90 rfl (lv_at hl 1 rfl) ?_
            refine lv_iconst (v := (3 : Int32)) hx hb dX7_segment_91 (by decide) ?_
            obtain ⟨o92, hc92, h⟩ := az_bnd h
            refine az_callVi (w2 := az_cM g ad (va_up V 2 u30)) (As := [.int x1, .int (3 : Int32)]) (rest := []) ⟨hx, hb, hml, hown, hts⟩ hl.1 (kX7_inState l g ad (va_up V 2 u30) x1 (3 : Int32) o92 hc92) (cwV 2 hts gX7_segment_X7_inState rfl rfl rfl (by decide +kernel) ⟨Nat.le_of_ble_eq_true rfl, Nat.le_of_ble_eq_true rfl⟩) rfl hK hP hD hS hA [0, 1, 2, 3] [] [0, 1, 2, 3] rfl rfl rfl rfl rfl (by decide) rfl rfl rfl 0 rfl rfl rfl (Nat.le_of_ble_eq_true rfl) dX7_segment_92 ⟨Nat.zero_le _, Nat.zero_le _⟩ rfl (fun H locs hP hD hS => ?_)
            have hP : va_P g.1 az_cl (az_cM g ad (va_up V 2 u30)) _ := hP
            have hD : va_D A (az_cM g ad (va_up V 2 u30)) := hD
            rw [← Option.some.inj h]
            exact az_iret hx hb hr hlocks hK hP hD hS dX7_segment_95
          · replace h := az_neg c43_2 h
            by_cases c43_3 : x2 = (3 : Int32)
            · replace h := az_pos c43_3 h
              refine lv_tableIn (tgt := 96) (off := 53) hx hb dX7_segment_43 (by rw [c43_3]; decide) (by rw [c43_3]; decide) (by rw [c43_3]; rfl) (by decide) ?_
              refine lv_aload_n hx hb dX7_segment_96 rfl (lv_at hl 0 rfl) ?_
              refine lv_iload_n hx hb dX7_segment_97 rfl (lv_at hl 1 rfl) ?_
              refine lv_iconst (v := (4 : Int32)) hx hb dX7_segment_98 (by decide) ?_
              obtain ⟨o99, hc99, h⟩ := az_bnd h
              refine az_callVi (w2 := az_cM g ad (va_up V 2 u30)) (As := [.int x1, .int (4 : Int32)]) (rest := []) ⟨hx, hb, hml, hown, hts⟩ hl.1 (kX7_inState l g ad (va_up V 2 u30) x1 (4 : Int32) o99 hc99) (cwV 2 hts gX7_segment_X7_inState rfl rfl rfl (by decide +kernel) ⟨Nat.le_of_ble_eq_true rfl, Nat.le_of_ble_eq_true rfl⟩) rfl hK hP hD hS hA [0, 1, 2, 3] [] [0, 1, 2, 3] rfl rfl rfl rfl rfl (by decide) rfl rfl rfl 0 rfl rfl rfl (Nat.le_of_ble_eq_true rfl) dX7_segment_99 ⟨Nat.zero_le _, Nat.zero_le _⟩ rfl (fun H locs hP hD hS => ?_)
              have hP : va_P g.1 az_cl (az_cM g ad (va_up V 2 u30)) _ := hP
              have hD : va_D A (az_cM g ad (va_up V 2 u30)) := hD
              rw [← Option.some.inj h]
              exact az_iret hx hb hr hlocks hK hP hD hS dX7_segment_102
            · replace h := az_neg c43_3 h
              by_cases c43_4 : x2 = (4 : Int32)
              · replace h := az_pos c43_4 h
                refine lv_tableIn (tgt := 103) (off := 60) hx hb dX7_segment_43 (by rw [c43_4]; decide) (by rw [c43_4]; decide) (by rw [c43_4]; rfl) (by decide) ?_
                refine lv_aload_n hx hb dX7_segment_103 rfl (lv_at hl 0 rfl) ?_
                refine lv_iload_n hx hb dX7_segment_104 rfl (lv_at hl 1 rfl) ?_
                refine lv_iconst (v := (2 : Int32)) hx hb dX7_segment_105 (by decide) ?_
                obtain ⟨o106, hc106, h⟩ := az_bnd h
                refine az_callVi (w2 := az_cM g ad (va_up V 2 u30)) (As := [.int x1, .int (2 : Int32)]) (rest := []) ⟨hx, hb, hml, hown, hts⟩ hl.1 (kX7_ofSegment l g ad (va_up V 2 u30) x1 (2 : Int32) o106 hc106) (cwV 2 hts gX7_segment_X7_ofSegment rfl rfl rfl (by decide +kernel) ⟨Nat.le_of_ble_eq_true rfl, Nat.le_of_ble_eq_true rfl⟩) rfl hK hP hD hS hA [0, 1, 2, 3] [] [0, 1, 2, 3] rfl rfl rfl rfl rfl (by decide) rfl rfl rfl 0 rfl rfl rfl (Nat.le_of_ble_eq_true rfl) dX7_segment_106 ⟨Nat.zero_le _, Nat.zero_le _⟩ rfl (fun H locs hP hD hS => ?_)
                have hP : va_P g.1 az_cl (az_cM g ad (va_up V 2 u30)) _ := hP
                have hD : va_D A (az_cM g ad (va_up V 2 u30)) := hD
                rw [← Option.some.inj h]
                exact az_iret hx hb hr hlocks hK hP hD hS dX7_segment_109
              · replace h := az_neg c43_4 h
                refine lv_tableOut (tgt := 110) hx hb dX7_segment_43 (by have n0 := lv_neT (a := 0) c43_0 (by decide); have n1 := lv_neT (a := 1) c43_1 (by decide); have n2 := lv_neT (a := 2) c43_2 (by decide); have n3 := lv_neT (a := 3) c43_3 (by decide); have n4 := lv_neT (a := 4) c43_4 (by decide); omega) (by decide) ?_
                refine lv_aload_n hx hb dX7_segment_110 rfl (lv_at hl 0 rfl) ?_
                refine lv_iload_n hx hb dX7_segment_111 rfl (lv_at hl 1 rfl) ?_
                obtain ⟨o112, hc112, h⟩ := az_bnd h
                refine az_callVi (w2 := az_cM g ad (va_up V 2 u30)) (As := [.int x1]) (rest := []) ⟨hx, hb, hml, hown, hts⟩ hl.1 (kX7_ageOf l g ad (va_up V 2 u30) x1 o112 hc112) (cwV 1 hts gX7_segment_X7_ageOf rfl rfl rfl (by decide +kernel) ⟨Nat.le_of_ble_eq_true rfl, Nat.le_of_ble_eq_true rfl⟩) rfl hK hP hD hS hA [0, 1, 2, 3] [] [0, 1, 2, 3] rfl rfl rfl rfl rfl (by decide) rfl rfl rfl 0 rfl rfl rfl (Nat.le_of_ble_eq_true rfl) dX7_segment_112 ⟨Nat.zero_le _, Nat.zero_le _⟩ rfl (fun H locs hP hD hS => ?_)
                have hP : va_P g.1 az_cl (az_cM g ad (va_up V 2 u30)) _ := hP
                have hD : va_D A (az_cM g ad (va_up V 2 u30)) := hD
                rw [← Option.some.inj h]
                exact az_iret hx hb hr hlocks hK hP hD hS dX7_segment_115
    · replace h := az_neg c37 h
      refine lv_iconst (v := (0 : Int32)) hx hb dX7_segment_40 (by decide) ?_
      have hP : va_P g.1 az_cl (az_cM g ad (va_up V 2 u30)) _ := hP
      have hD : va_D A (az_cM g ad (va_up V 2 u30)) := hD
      rw [← Option.some.inj h]
      exact az_iret hx hb hr hlocks hK hP hD hS dX7_segment_41

def FX7_block (V : az_St) (x1 : Int32) (x2 : Int32) : Option (Int32 × (Nat → Int32)) := (FX7_isBlock V x1).bind (fun o3 => if o3 = (0 : Int32) then (az_lt (upd (V 2) 1 (1 : Int32)) (fun u30 => if u30 1 ≤ (0 : Int32) then ((FX7_ofBlock (va_up V 2 u30) x1 (0 : Int32)).bind (fun o45 => if x2 = (0 : Int32) then (some (o45, u30)) else (if x2 = (4 : Int32) then (if o45 = (3 : Int32) then ((FX7_ofBlock (va_up V 2 u30) x1 (4 : Int32)).bind (fun o68 => some (o68, u30))) else (some ((-1 : Int32), u30))) else (if o45 = (0 : Int32) then (some ((-1 : Int32), u30)) else ((FX7_ofBlock (va_up V 2 u30) x1 x2).bind (fun o89 => some (o89, u30))))))) else (some ((0 : Int32), u30)))) else ((FX7_isIn x2.toInt64 (0 : Int64) (4 : Int64)).bind (fun o19 => if o19 = (0 : Int32) then (az_lt (upd (V 2) 1 (2 : Int32)) (fun u30 => if u30 1 ≤ (0 : Int32) then ((FX7_ofBlock (va_up V 2 u30) x1 (0 : Int32)).bind (fun o45 => if x2 = (0 : Int32) then (some (o45, u30)) else (if x2 = (4 : Int32) then (if o45 = (3 : Int32) then ((FX7_ofBlock (va_up V 2 u30) x1 (4 : Int32)).bind (fun o68 => some (o68, u30))) else (some ((-1 : Int32), u30))) else (if o45 = (0 : Int32) then (some ((-1 : Int32), u30)) else ((FX7_ofBlock (va_up V 2 u30) x1 x2).bind (fun o89 => some (o89, u30))))))) else (some ((0 : Int32), u30)))) else (az_lt (upd (V 2) 1 (0 : Int32)) (fun u30 => if u30 1 ≤ (0 : Int32) then ((FX7_ofBlock (va_up V 2 u30) x1 (0 : Int32)).bind (fun o45 => if x2 = (0 : Int32) then (some (o45, u30)) else (if x2 = (4 : Int32) then (if o45 = (3 : Int32) then ((FX7_ofBlock (va_up V 2 u30) x1 (4 : Int32)).bind (fun o68 => some (o68, u30))) else (some ((-1 : Int32), u30))) else (if o45 = (0 : Int32) then (some ((-1 : Int32), u30)) else ((FX7_ofBlock (va_up V 2 u30) x1 x2).bind (fun o89 => some (o89, u30))))))) else (some ((0 : Int32), u30)))))))
theorem inX7_block_RX7 : ∀ w ∈ wsX70, w ∈ wsX7_block := az_inr [20, 21, 22, 23, 24] (by decide +kernel)
set_option maxHeartbeats 4000000 in
set_option maxRecDepth 100000 in
theorem kX7_block (l : Launch) (g : az_G) (ad : Nat → Nat) (V : az_St) (x1 : Int32) (x2 : Int32) (o : Int32 × (Nat → Int32)) (h : FX7_block V x1 x2 = some o) : az_I l yX7_block wsX7_block ({ frames := 3, cells := 0, slots := 0, locals := 67 } : Room) [.ref (ad 0), .int x1, .int x2] g (az_cM g ad V) o.1 (az_cM g ad (va_up V 2 o.2)) := by
  refine az_body (cc := cX7_block) (maxL := 4) (ret := (some .int)) (Qc := fun A => az_QI g (az_cM g ad (va_up V 2 o.2)) o.1 A) (by decide +kernel) rfl (Nat.le_of_ble_eq_true rfl) ?_
  intro p e s m args below meth c A hx hb hr hts hown hml hlocks hA hK hP hD hS ls hl
  have hl : lv_has ls 4 [(0, .ref (ad 0)), (1, .int x1), (2, .int x2)] := hl
  unfold FX7_block at h
  refine lv_aload_n hx hb dX7_block_0 rfl (lv_at hl 0 rfl) ?_
  refine lv_aload_n hx hb dX7_block_1 rfl (lv_at hl 0 rfl) ?_
  refine lv_iload_n hx hb dX7_block_2 rfl (lv_at hl 1 rfl) ?_
  obtain ⟨o3, hc3, h⟩ := az_bnd h
  refine az_callVi (w2 := az_cM g ad V) (As := [.int x1]) (rest := [.ref (ad 0)]) ⟨hx, hb, hml, hown, hts⟩ hl.1 (kX7_isBlock l g ad V x1 o3 hc3) (cwV 1 hts gX7_block_X7_isBlock rfl rfl rfl (by decide +kernel) ⟨Nat.le_of_ble_eq_true rfl, Nat.le_of_ble_eq_true rfl⟩) rfl hK hP hD hS hA [0, 1, 2, 3] [] [0, 1, 2, 3] rfl rfl rfl rfl rfl (by decide) rfl rfl rfl 0 rfl rfl rfl (Nat.le_of_ble_eq_true rfl) dX7_block_3 ⟨Nat.zero_le _, Nat.zero_le _⟩ rfl (fun H locs hP hD hS => ?_)
  refine lv_if_ne (tgt := 13) hx hb dX7_block_6 (by decide) (fun c6 => ?_) (fun c6 => ?_)
  · replace h := az_neg c6 h
    refine lv_iload_n hx hb dX7_block_13 rfl (lv_at hl 2 rfl) ?_
    refine lv_i2l (v := x2.toInt64) hx hb dX7_block_14 rfl ?_
    refine lv_lconst (v := (0 : Int64)) hx hb dX7_block_15 (by decide) ?_
    refine lv_ldc2 (v := (4 : Int64)) hx hb hown (hts _ (List.mem_of_getElem? (i := 1) rfl)) dX7_block_16 ?_
    obtain ⟨o19, hc19, h⟩ := az_bnd h
    refine az_callS0 (As := [.long x2.toInt64, .long (0 : Int64), .long (4 : Int64)]) (rest := [.ref (ad 0)]) ⟨hx, hb, hml, hown, hts⟩ hl.1 (kX7_isIn l g x2.toInt64 (0 : Int64) (4 : Int64) o19 hc19) (va_cwS 3 hts gX7_block_X7_isIn rfl rfl rfl (by decide +kernel) ⟨Nat.le_of_ble_eq_true rfl, Nat.le_of_ble_eq_true rfl⟩) rfl hK hP hS hA (Nat.le_of_ble_eq_true rfl) dX7_block_19 ⟨Nat.zero_le _, Nat.zero_le _⟩ rfl (fun H locs hP hS => ?_)
    refine lv_if_ne (tgt := 29) hx hb dX7_block_22 (by decide) (fun c22 => ?_) (fun c22 => ?_)
    · replace h := az_neg c22 h
      refine lv_iconst (v := (0 : Int32)) hx hb dX7_block_29 (by decide) ?_
      refine va_put (D := g.1) (ci := 7) (v := .int (0 : Int32)) (ty := .int) (C := RX7) (T := TX7) (N := 5) hx hb hts inX7_block_RX7 tyX7 tyX7_ok nmX7 hown hK hP hD hS 0 rfl rfl 3 (Nat.le_of_ble_eq_true rfl) (hts _ (List.mem_of_getElem? (i := 2) rfl)) (fun _ h9 => h9) rfl (by decide +kernel) rfl rfl (Nat.le_of_ble_eq_true rfl) dX7_block_30 (fun H locs hP hD hS => ?_)
      obtain ⟨u30, e30⟩ : ∃ w : Nat → Int32, w = upd (V 2) 1 (0 : Int32) := ⟨_, rfl⟩
      have hP : va_P g.1 az_cl (az_cM g ad (va_up V 2 u30)) H := by rw [e30]; exact hP
      have hD : va_D A (az_cM g ad (va_up V 2 u30)) := by rw [e30]; exact hD
      replace h := az_let e30 h
      refine lv_aload_n hx hb dX7_block_33 rfl (lv_at hl 0 rfl) ?_
      refine va_get (D := g.1) (ci := 7) (v := .int (u30 1)) (C := RX7) (T := TX7) (N := 5) hx hb hts inX7_block_RX7 hown hK hP 0 rfl rfl 3 (Nat.le_of_ble_eq_true rfl) (hts _ (List.mem_of_getElem? (i := 2) rfl)) (fun _ h9 => h9) rfl dX7_block_34 ?_
      refine lv_if_le (tgt := 42) hx hb dX7_block_37 (by decide) (fun c37 => ?_) (fun c37 => ?_)
      · replace h := az_pos c37 h
        refine lv_aload_n hx hb dX7_block_42 rfl (lv_at hl 0 rfl) ?_
        refine lv_iload_n hx hb dX7_block_43 rfl (lv_at hl 1 rfl) ?_
        refine lv_iconst (v := (0 : Int32)) hx hb dX7_block_44 (by decide) ?_
        obtain ⟨o45, hc45, h⟩ := az_bnd h
        refine az_callVi (w2 := az_cM g ad (va_up V 2 u30)) (As := [.int x1, .int (0 : Int32)]) (rest := []) ⟨hx, hb, hml, hown, hts⟩ hl.1 (kX7_ofBlock l g ad (va_up V 2 u30) x1 (0 : Int32) o45 hc45) (cwV 2 hts gX7_block_X7_ofBlock rfl rfl rfl (by decide +kernel) ⟨Nat.le_of_ble_eq_true rfl, Nat.le_of_ble_eq_true rfl⟩) rfl hK hP hD hS hA [0, 1, 2, 3] [] [0, 1, 2, 3] rfl rfl rfl rfl rfl (by decide) rfl rfl rfl 0 rfl rfl rfl (Nat.le_of_ble_eq_true rfl) dX7_block_45 ⟨Nat.zero_le _, Nat.zero_le _⟩ rfl (fun H locs hP hD hS => ?_)
        refine lv_istore_n (lv' := [(3, .int o45), (0, .ref (ad 0)), (1, .int x1), (2, .int x2)]) hx hb dX7_block_48 rfl hl (by decide) rfl (fun ls hl => ?_)
        refine lv_iload_n hx hb dX7_block_49 rfl (lv_at hl 3 rfl) ?_
        refine lv_if_ne (tgt := 55) hx hb dX7_block_50 (by decide) (fun c50 => ?_) (fun c50 => ?_)
        · replace h := az_neg c50 h
          refine lv_iload_n hx hb dX7_block_55 rfl (lv_at hl 3 rfl) ?_
          refine lv_iconst (v := (4 : Int32)) hx hb dX7_block_56 (by decide) ?_
          refine lv_icmp_ne (tgt := 78) hx hb dX7_block_57 (by decide) (fun c57 => ?_) (fun c57 => ?_)
          · replace h := az_neg c57 h
            refine lv_iload_n hx hb dX7_block_78 rfl (lv_at hl 0 rfl) ?_
            refine lv_if_ne (tgt := 86) hx hb dX7_block_79 (by decide) (fun c79 => ?_) (fun c79 => ?_)
            · replace h := az_neg c79 h
              refine lv_aload_n hx hb dX7_block_86 rfl (lv_at hl 1 rfl) ?_
              refine lv_iload_n hx hb dX7_block_87 rfl (lv_at hl 2 rfl) ?_
              refine lv_iload_n hx hb dX7_block_88 rfl (lv_at hl 3 rfl) ?_
              obtain ⟨o89, hc89, h⟩ := az_bnd h
              refine az_callVi (w2 := az_cM g ad (va_up V 2 u30)) (As := [.int x1, .int x2]) (rest := []) ⟨hx, hb, hml, hown, hts⟩ hl.1 (kX7_ofBlock l g ad (va_up V 2 u30) x1 x2 o89 hc89) (cwV 2 hts gX7_block_X7_ofBlock rfl rfl rfl (by decide +kernel) ⟨Nat.le_of_ble_eq_true rfl, Nat.le_of_ble_eq_true rfl⟩) rfl hK hP hD hS hA [0, 1, 2, 3] [] [0, 1, 2, 3] rfl rfl rfl rfl rfl (by decide) rfl rfl rfl 0 rfl rfl rfl (Nat.le_of_ble_eq_true rfl) dX7_block_89 ⟨Nat.zero_le _, Nat.zero_le _⟩ rfl (fun H locs hP hD hS => ?_)
              have hP : va_P g.1 az_cl (az_cM g ad (va_up V 2 u30)) _ := hP
              have hD : va_D A (az_cM g ad (va_up V 2 u30)) := hD
              rw [← Option.some.inj h]
              exact az_iret hx hb hr hlocks hK hP hD hS dX7_block_92
            · replace h := az_pos c79 h
              refine lv_iconst (v := (-1 : Int32)) hx hb dX7_block_82 (by decide) ?_
              refine lv_goto (tgt := 92) hx hb dX7_block_83 (by decide) ?_
              have hP : va_P g.1 az_cl (az_cM g ad (va_up V 2 u30)) _ := hP
              have hD : va_D A (az_cM g ad (va_up V 2 u30)) := hD
              rw [← Option.some.inj h]
              exact az_iret hx hb hr hlocks hK hP hD hS dX7_block_92
          · replace h := az_pos c57 h
            refine lv_iload_n hx hb dX7_block_60 rfl (lv_at hl 0 rfl) ?_
            refine lv_iconst (v := (3 : Int32)) hx hb dX7_block_61 (by decide) ?_
            refine lv_icmp_ne (tgt := 74) hx hb dX7_block_62 (by decide) (fun c62 => ?_) (fun c62 => ?_)
            · replace h := az_neg c62 h
              refine lv_iconst (v := (-1 : Int32)) hx hb dX7_block_74 (by decide) ?_
              refine lv_goto (tgt := 92) hx hb dX7_block_75 (by decide) ?_
              have hP : va_P g.1 az_cl (az_cM g ad (va_up V 2 u30)) _ := hP
              have hD : va_D A (az_cM g ad (va_up V 2 u30)) := hD
              rw [← Option.some.inj h]
              exact az_iret hx hb hr hlocks hK hP hD hS dX7_block_92
            · replace h := az_pos c62 h
              refine lv_aload_n hx hb dX7_block_65 rfl (lv_at hl 1 rfl) ?_
              refine lv_iload_n hx hb dX7_block_66 rfl (lv_at hl 2 rfl) ?_
              refine lv_iconst (v := (4 : Int32)) hx hb dX7_block_67 (by decide) ?_
              obtain ⟨o68, hc68, h⟩ := az_bnd h
              refine az_callVi (w2 := az_cM g ad (va_up V 2 u30)) (As := [.int x1, .int (4 : Int32)]) (rest := []) ⟨hx, hb, hml, hown, hts⟩ hl.1 (kX7_ofBlock l g ad (va_up V 2 u30) x1 (4 : Int32) o68 hc68) (cwV 2 hts gX7_block_X7_ofBlock rfl rfl rfl (by decide +kernel) ⟨Nat.le_of_ble_eq_true rfl, Nat.le_of_ble_eq_true rfl⟩) rfl hK hP hD hS hA [0, 1, 2, 3] [] [0, 1, 2, 3] rfl rfl rfl rfl rfl (by decide) rfl rfl rfl 0 rfl rfl rfl (Nat.le_of_ble_eq_true rfl) dX7_block_68 ⟨Nat.zero_le _, Nat.zero_le _⟩ rfl (fun H locs hP hD hS => ?_)
              refine lv_goto (tgt := 92) hx hb dX7_block_71 (by decide) ?_
              have hP : va_P g.1 az_cl (az_cM g ad (va_up V 2 u30)) _ := hP
              have hD : va_D A (az_cM g ad (va_up V 2 u30)) := hD
              rw [← Option.some.inj h]
              exact az_iret hx hb hr hlocks hK hP hD hS dX7_block_92
        · replace h := az_pos c50 h
          refine lv_iload_n hx hb dX7_block_53 rfl (lv_at hl 0 rfl) ?_
          have hP : va_P g.1 az_cl (az_cM g ad (va_up V 2 u30)) _ := hP
          have hD : va_D A (az_cM g ad (va_up V 2 u30)) := hD
          rw [← Option.some.inj h]
          exact az_iret hx hb hr hlocks hK hP hD hS dX7_block_54
      · replace h := az_neg c37 h
        refine lv_iconst (v := (0 : Int32)) hx hb dX7_block_40 (by decide) ?_
        have hP : va_P g.1 az_cl (az_cM g ad (va_up V 2 u30)) _ := hP
        have hD : va_D A (az_cM g ad (va_up V 2 u30)) := hD
        rw [← Option.some.inj h]
        exact az_iret hx hb hr hlocks hK hP hD hS dX7_block_41
    · replace h := az_pos c22 h
      refine lv_iconst (v := (2 : Int32)) hx hb dX7_block_25 (by decide) ?_
      refine lv_goto (tgt := 30) hx hb dX7_block_26 (by decide) ?_
      refine va_put (D := g.1) (ci := 7) (v := .int (2 : Int32)) (ty := .int) (C := RX7) (T := TX7) (N := 5) hx hb hts inX7_block_RX7 tyX7 tyX7_ok nmX7 hown hK hP hD hS 0 rfl rfl 3 (Nat.le_of_ble_eq_true rfl) (hts _ (List.mem_of_getElem? (i := 2) rfl)) (fun _ h9 => h9) rfl (by decide +kernel) rfl rfl (Nat.le_of_ble_eq_true rfl) dX7_block_30 (fun H locs hP hD hS => ?_)
      obtain ⟨u30, e30⟩ : ∃ w : Nat → Int32, w = upd (V 2) 1 (2 : Int32) := ⟨_, rfl⟩
      have hP : va_P g.1 az_cl (az_cM g ad (va_up V 2 u30)) H := by rw [e30]; exact hP
      have hD : va_D A (az_cM g ad (va_up V 2 u30)) := by rw [e30]; exact hD
      replace h := az_let e30 h
      refine lv_aload_n hx hb dX7_block_33 rfl (lv_at hl 0 rfl) ?_
      refine va_get (D := g.1) (ci := 7) (v := .int (u30 1)) (C := RX7) (T := TX7) (N := 5) hx hb hts inX7_block_RX7 hown hK hP 0 rfl rfl 3 (Nat.le_of_ble_eq_true rfl) (hts _ (List.mem_of_getElem? (i := 2) rfl)) (fun _ h9 => h9) rfl dX7_block_34 ?_
      refine lv_if_le (tgt := 42) hx hb dX7_block_37 (by decide) (fun c37 => ?_) (fun c37 => ?_)
      · replace h := az_pos c37 h
        refine lv_aload_n hx hb dX7_block_42 rfl (lv_at hl 0 rfl) ?_
        refine lv_iload_n hx hb dX7_block_43 rfl (lv_at hl 1 rfl) ?_
        refine lv_iconst (v := (0 : Int32)) hx hb dX7_block_44 (by decide) ?_
        obtain ⟨o45, hc45, h⟩ := az_bnd h
        refine az_callVi (w2 := az_cM g ad (va_up V 2 u30)) (As := [.int x1, .int (0 : Int32)]) (rest := []) ⟨hx, hb, hml, hown, hts⟩ hl.1 (kX7_ofBlock l g ad (va_up V 2 u30) x1 (0 : Int32) o45 hc45) (cwV 2 hts gX7_block_X7_ofBlock rfl rfl rfl (by decide +kernel) ⟨Nat.le_of_ble_eq_true rfl, Nat.le_of_ble_eq_true rfl⟩) rfl hK hP hD hS hA [0, 1, 2, 3] [] [0, 1, 2, 3] rfl rfl rfl rfl rfl (by decide) rfl rfl rfl 0 rfl rfl rfl (Nat.le_of_ble_eq_true rfl) dX7_block_45 ⟨Nat.zero_le _, Nat.zero_le _⟩ rfl (fun H locs hP hD hS => ?_)
        refine lv_istore_n (lv' := [(3, .int o45), (0, .ref (ad 0)), (1, .int x1), (2, .int x2)]) hx hb dX7_block_48 rfl hl (by decide) rfl (fun ls hl => ?_)
        refine lv_iload_n hx hb dX7_block_49 rfl (lv_at hl 3 rfl) ?_
        refine lv_if_ne (tgt := 55) hx hb dX7_block_50 (by decide) (fun c50 => ?_) (fun c50 => ?_)
        · replace h := az_neg c50 h
          refine lv_iload_n hx hb dX7_block_55 rfl (lv_at hl 3 rfl) ?_
          refine lv_iconst (v := (4 : Int32)) hx hb dX7_block_56 (by decide) ?_
          refine lv_icmp_ne (tgt := 78) hx hb dX7_block_57 (by decide) (fun c57 => ?_) (fun c57 => ?_)
          · replace h := az_neg c57 h
            refine lv_iload_n hx hb dX7_block_78 rfl (lv_at hl 0 rfl) ?_
            refine lv_if_ne (tgt := 86) hx hb dX7_block_79 (by decide) (fun c79 => ?_) (fun c79 => ?_)
            · replace h := az_neg c79 h
              refine lv_aload_n hx hb dX7_block_86 rfl (lv_at hl 1 rfl) ?_
              refine lv_iload_n hx hb dX7_block_87 rfl (lv_at hl 2 rfl) ?_
              refine lv_iload_n hx hb dX7_block_88 rfl (lv_at hl 3 rfl) ?_
              obtain ⟨o89, hc89, h⟩ := az_bnd h
              refine az_callVi (w2 := az_cM g ad (va_up V 2 u30)) (As := [.int x1, .int x2]) (rest := []) ⟨hx, hb, hml, hown, hts⟩ hl.1 (kX7_ofBlock l g ad (va_up V 2 u30) x1 x2 o89 hc89) (cwV 2 hts gX7_block_X7_ofBlock rfl rfl rfl (by decide +kernel) ⟨Nat.le_of_ble_eq_true rfl, Nat.le_of_ble_eq_true rfl⟩) rfl hK hP hD hS hA [0, 1, 2, 3] [] [0, 1, 2, 3] rfl rfl rfl rfl rfl (by decide) rfl rfl rfl 0 rfl rfl rfl (Nat.le_of_ble_eq_true rfl) dX7_block_89 ⟨Nat.zero_le _, Nat.zero_le _⟩ rfl (fun H locs hP hD hS => ?_)
              have hP : va_P g.1 az_cl (az_cM g ad (va_up V 2 u30)) _ := hP
              have hD : va_D A (az_cM g ad (va_up V 2 u30)) := hD
              rw [← Option.some.inj h]
              exact az_iret hx hb hr hlocks hK hP hD hS dX7_block_92
            · replace h := az_pos c79 h
              refine lv_iconst (v := (-1 : Int32)) hx hb dX7_block_82 (by decide) ?_
              refine lv_goto (tgt := 92) hx hb dX7_block_83 (by decide) ?_
              have hP : va_P g.1 az_cl (az_cM g ad (va_up V 2 u30)) _ := hP
              have hD : va_D A (az_cM g ad (va_up V 2 u30)) := hD
              rw [← Option.some.inj h]
              exact az_iret hx hb hr hlocks hK hP hD hS dX7_block_92
          · replace h := az_pos c57 h
            refine lv_iload_n hx hb dX7_block_60 rfl (lv_at hl 0 rfl) ?_
            refine lv_iconst (v := (3 : Int32)) hx hb dX7_block_61 (by decide) ?_
            refine lv_icmp_ne (tgt := 74) hx hb dX7_block_62 (by decide) (fun c62 => ?_) (fun c62 => ?_)
            · replace h := az_neg c62 h
              refine lv_iconst (v := (-1 : Int32)) hx hb dX7_block_74 (by decide) ?_
              refine lv_goto (tgt := 92) hx hb dX7_block_75 (by decide) ?_
              have hP : va_P g.1 az_cl (az_cM g ad (va_up V 2 u30)) _ := hP
              have hD : va_D A (az_cM g ad (va_up V 2 u30)) := hD
              rw [← Option.some.inj h]
              exact az_iret hx hb hr hlocks hK hP hD hS dX7_block_92
            · replace h := az_pos c62 h
              refine lv_aload_n hx hb dX7_block_65 rfl (lv_at hl 1 rfl) ?_
              refine lv_iload_n hx hb dX7_block_66 rfl (lv_at hl 2 rfl) ?_
              refine lv_iconst (v := (4 : Int32)) hx hb dX7_block_67 (by decide) ?_
              obtain ⟨o68, hc68, h⟩ := az_bnd h
              refine az_callVi (w2 := az_cM g ad (va_up V 2 u30)) (As := [.int x1, .int (4 : Int32)]) (rest := []) ⟨hx, hb, hml, hown, hts⟩ hl.1 (kX7_ofBlock l g ad (va_up V 2 u30) x1 (4 : Int32) o68 hc68) (cwV 2 hts gX7_block_X7_ofBlock rfl rfl rfl (by decide +kernel) ⟨Nat.le_of_ble_eq_true rfl, Nat.le_of_ble_eq_true rfl⟩) rfl hK hP hD hS hA [0, 1, 2, 3] [] [0, 1, 2, 3] rfl rfl rfl rfl rfl (by decide) rfl rfl rfl 0 rfl rfl rfl (Nat.le_of_ble_eq_true rfl) dX7_block_68 ⟨Nat.zero_le _, Nat.zero_le _⟩ rfl (fun H locs hP hD hS => ?_)
              refine lv_goto (tgt := 92) hx hb dX7_block_71 (by decide) ?_
              have hP : va_P g.1 az_cl (az_cM g ad (va_up V 2 u30)) _ := hP
              have hD : va_D A (az_cM g ad (va_up V 2 u30)) := hD
              rw [← Option.some.inj h]
              exact az_iret hx hb hr hlocks hK hP hD hS dX7_block_92
        · replace h := az_pos c50 h
          refine lv_iload_n hx hb dX7_block_53 rfl (lv_at hl 0 rfl) ?_
          have hP : va_P g.1 az_cl (az_cM g ad (va_up V 2 u30)) _ := hP
          have hD : va_D A (az_cM g ad (va_up V 2 u30)) := hD
          rw [← Option.some.inj h]
          exact az_iret hx hb hr hlocks hK hP hD hS dX7_block_54
      · replace h := az_neg c37 h
        refine lv_iconst (v := (0 : Int32)) hx hb dX7_block_40 (by decide) ?_
        have hP : va_P g.1 az_cl (az_cM g ad (va_up V 2 u30)) _ := hP
        have hD : va_D A (az_cM g ad (va_up V 2 u30)) := hD
        rw [← Option.some.inj h]
        exact az_iret hx hb hr hlocks hK hP hD hS dX7_block_41
  · replace h := az_pos c6 h
    refine lv_iconst (v := (1 : Int32)) hx hb dX7_block_9 (by decide) ?_
    refine lv_goto (tgt := 30) hx hb dX7_block_10 (by decide) ?_
    refine va_put (D := g.1) (ci := 7) (v := .int (1 : Int32)) (ty := .int) (C := RX7) (T := TX7) (N := 5) hx hb hts inX7_block_RX7 tyX7 tyX7_ok nmX7 hown hK hP hD hS 0 rfl rfl 3 (Nat.le_of_ble_eq_true rfl) (hts _ (List.mem_of_getElem? (i := 2) rfl)) (fun _ h9 => h9) rfl (by decide +kernel) rfl rfl (Nat.le_of_ble_eq_true rfl) dX7_block_30 (fun H locs hP hD hS => ?_)
    obtain ⟨u30, e30⟩ : ∃ w : Nat → Int32, w = upd (V 2) 1 (1 : Int32) := ⟨_, rfl⟩
    have hP : va_P g.1 az_cl (az_cM g ad (va_up V 2 u30)) H := by rw [e30]; exact hP
    have hD : va_D A (az_cM g ad (va_up V 2 u30)) := by rw [e30]; exact hD
    replace h := az_let e30 h
    refine lv_aload_n hx hb dX7_block_33 rfl (lv_at hl 0 rfl) ?_
    refine va_get (D := g.1) (ci := 7) (v := .int (u30 1)) (C := RX7) (T := TX7) (N := 5) hx hb hts inX7_block_RX7 hown hK hP 0 rfl rfl 3 (Nat.le_of_ble_eq_true rfl) (hts _ (List.mem_of_getElem? (i := 2) rfl)) (fun _ h9 => h9) rfl dX7_block_34 ?_
    refine lv_if_le (tgt := 42) hx hb dX7_block_37 (by decide) (fun c37 => ?_) (fun c37 => ?_)
    · replace h := az_pos c37 h
      refine lv_aload_n hx hb dX7_block_42 rfl (lv_at hl 0 rfl) ?_
      refine lv_iload_n hx hb dX7_block_43 rfl (lv_at hl 1 rfl) ?_
      refine lv_iconst (v := (0 : Int32)) hx hb dX7_block_44 (by decide) ?_
      obtain ⟨o45, hc45, h⟩ := az_bnd h
      refine az_callVi (w2 := az_cM g ad (va_up V 2 u30)) (As := [.int x1, .int (0 : Int32)]) (rest := []) ⟨hx, hb, hml, hown, hts⟩ hl.1 (kX7_ofBlock l g ad (va_up V 2 u30) x1 (0 : Int32) o45 hc45) (cwV 2 hts gX7_block_X7_ofBlock rfl rfl rfl (by decide +kernel) ⟨Nat.le_of_ble_eq_true rfl, Nat.le_of_ble_eq_true rfl⟩) rfl hK hP hD hS hA [0, 1, 2, 3] [] [0, 1, 2, 3] rfl rfl rfl rfl rfl (by decide) rfl rfl rfl 0 rfl rfl rfl (Nat.le_of_ble_eq_true rfl) dX7_block_45 ⟨Nat.zero_le _, Nat.zero_le _⟩ rfl (fun H locs hP hD hS => ?_)
      refine lv_istore_n (lv' := [(3, .int o45), (0, .ref (ad 0)), (1, .int x1), (2, .int x2)]) hx hb dX7_block_48 rfl hl (by decide) rfl (fun ls hl => ?_)
      refine lv_iload_n hx hb dX7_block_49 rfl (lv_at hl 3 rfl) ?_
      refine lv_if_ne (tgt := 55) hx hb dX7_block_50 (by decide) (fun c50 => ?_) (fun c50 => ?_)
      · replace h := az_neg c50 h
        refine lv_iload_n hx hb dX7_block_55 rfl (lv_at hl 3 rfl) ?_
        refine lv_iconst (v := (4 : Int32)) hx hb dX7_block_56 (by decide) ?_
        refine lv_icmp_ne (tgt := 78) hx hb dX7_block_57 (by decide) (fun c57 => ?_) (fun c57 => ?_)
        · replace h := az_neg c57 h
          refine lv_iload_n hx hb dX7_block_78 rfl (lv_at hl 0 rfl) ?_
          refine lv_if_ne (tgt := 86) hx hb dX7_block_79 (by decide) (fun c79 => ?_) (fun c79 => ?_)
          · replace h := az_neg c79 h
            refine lv_aload_n hx hb dX7_block_86 rfl (lv_at hl 1 rfl) ?_
            refine lv_iload_n hx hb dX7_block_87 rfl (lv_at hl 2 rfl) ?_
            refine lv_iload_n hx hb dX7_block_88 rfl (lv_at hl 3 rfl) ?_
            obtain ⟨o89, hc89, h⟩ := az_bnd h
            refine az_callVi (w2 := az_cM g ad (va_up V 2 u30)) (As := [.int x1, .int x2]) (rest := []) ⟨hx, hb, hml, hown, hts⟩ hl.1 (kX7_ofBlock l g ad (va_up V 2 u30) x1 x2 o89 hc89) (cwV 2 hts gX7_block_X7_ofBlock rfl rfl rfl (by decide +kernel) ⟨Nat.le_of_ble_eq_true rfl, Nat.le_of_ble_eq_true rfl⟩) rfl hK hP hD hS hA [0, 1, 2, 3] [] [0, 1, 2, 3] rfl rfl rfl rfl rfl (by decide) rfl rfl rfl 0 rfl rfl rfl (Nat.le_of_ble_eq_true rfl) dX7_block_89 ⟨Nat.zero_le _, Nat.zero_le _⟩ rfl (fun H locs hP hD hS => ?_)
            have hP : va_P g.1 az_cl (az_cM g ad (va_up V 2 u30)) _ := hP
            have hD : va_D A (az_cM g ad (va_up V 2 u30)) := hD
            rw [← Option.some.inj h]
            exact az_iret hx hb hr hlocks hK hP hD hS dX7_block_92
          · replace h := az_pos c79 h
            refine lv_iconst (v := (-1 : Int32)) hx hb dX7_block_82 (by decide) ?_
            refine lv_goto (tgt := 92) hx hb dX7_block_83 (by decide) ?_
            have hP : va_P g.1 az_cl (az_cM g ad (va_up V 2 u30)) _ := hP
            have hD : va_D A (az_cM g ad (va_up V 2 u30)) := hD
            rw [← Option.some.inj h]
            exact az_iret hx hb hr hlocks hK hP hD hS dX7_block_92
        · replace h := az_pos c57 h
          refine lv_iload_n hx hb dX7_block_60 rfl (lv_at hl 0 rfl) ?_
          refine lv_iconst (v := (3 : Int32)) hx hb dX7_block_61 (by decide) ?_
          refine lv_icmp_ne (tgt := 74) hx hb dX7_block_62 (by decide) (fun c62 => ?_) (fun c62 => ?_)
          · replace h := az_neg c62 h
            refine lv_iconst (v := (-1 : Int32)) hx hb dX7_block_74 (by decide) ?_
            refine lv_goto (tgt := 92) hx hb dX7_block_75 (by decide) ?_
            have hP : va_P g.1 az_cl (az_cM g ad (va_up V 2 u30)) _ := hP
            have hD : va_D A (az_cM g ad (va_up V 2 u30)) := hD
            rw [← Option.some.inj h]
            exact az_iret hx hb hr hlocks hK hP hD hS dX7_block_92
          · replace h := az_pos c62 h
            refine lv_aload_n hx hb dX7_block_65 rfl (lv_at hl 1 rfl) ?_
            refine lv_iload_n hx hb dX7_block_66 rfl (lv_at hl 2 rfl) ?_
            refine lv_iconst (v := (4 : Int32)) hx hb dX7_block_67 (by decide) ?_
            obtain ⟨o68, hc68, h⟩ := az_bnd h
            refine az_callVi (w2 := az_cM g ad (va_up V 2 u30)) (As := [.int x1, .int (4 : Int32)]) (rest := []) ⟨hx, hb, hml, hown, hts⟩ hl.1 (kX7_ofBlock l g ad (va_up V 2 u30) x1 (4 : Int32) o68 hc68) (cwV 2 hts gX7_block_X7_ofBlock rfl rfl rfl (by decide +kernel) ⟨Nat.le_of_ble_eq_true rfl, Nat.le_of_ble_eq_true rfl⟩) rfl hK hP hD hS hA [0, 1, 2, 3] [] [0, 1, 2, 3] rfl rfl rfl rfl rfl (by decide) rfl rfl rfl 0 rfl rfl rfl (Nat.le_of_ble_eq_true rfl) dX7_block_68 ⟨Nat.zero_le _, Nat.zero_le _⟩ rfl (fun H locs hP hD hS => ?_)
            refine lv_goto (tgt := 92) hx hb dX7_block_71 (by decide) ?_
            have hP : va_P g.1 az_cl (az_cM g ad (va_up V 2 u30)) _ := hP
            have hD : va_D A (az_cM g ad (va_up V 2 u30)) := hD
            rw [← Option.some.inj h]
            exact az_iret hx hb hr hlocks hK hP hD hS dX7_block_92
      · replace h := az_pos c50 h
        refine lv_iload_n hx hb dX7_block_53 rfl (lv_at hl 0 rfl) ?_
        have hP : va_P g.1 az_cl (az_cM g ad (va_up V 2 u30)) _ := hP
        have hD : va_D A (az_cM g ad (va_up V 2 u30)) := hD
        rw [← Option.some.inj h]
        exact az_iret hx hb hr hlocks hK hP hD hS dX7_block_54
    · replace h := az_neg c37 h
      refine lv_iconst (v := (0 : Int32)) hx hb dX7_block_40 (by decide) ?_
      have hP : va_P g.1 az_cl (az_cM g ad (va_up V 2 u30)) _ := hP
      have hD : va_D A (az_cM g ad (va_up V 2 u30)) := hD
      rw [← Option.some.inj h]
      exact az_iret hx hb hr hlocks hK hP hD hS dX7_block_41

def FX7_neededBy_L54 : Nat → az_St → Int32 → (Nat → Int32) → Int32 → Int32 → Option (Int32 × (Nat → Int32))
  | 0, _, _, _, _, _ => none
  | n + 1, V, x1, wV2, y2, y3 => if (6 : Int32) ≤ y3 then (some (y2, wV2)) else ((FX7_holds (va_up V 2 wV2) y3 x1).bind (fun o64 => if o64 = (0 : Int32) then (FX7_neededBy_L54 n V x1 wV2 (y2 ||| (0 : Int32)) (y3 + (1 : Int32))) else (FX7_neededBy_L54 n V x1 wV2 (y2 ||| ((1 : Int32) <<< (y3 &&& 31))) (y3 + (1 : Int32)))))
theorem FX7_neededBy_L54_s (n : Nat) (V : az_St) (x1 : Int32) (wV2 : Nat → Int32) (y2 : Int32) (y3 : Int32) : FX7_neededBy_L54 (n + 1) V x1 wV2 y2 y3 = (if (6 : Int32) ≤ y3 then (some (y2, wV2)) else ((FX7_holds (va_up V 2 wV2) y3 x1).bind (fun o64 => if o64 = (0 : Int32) then (FX7_neededBy_L54 n V x1 wV2 (y2 ||| (0 : Int32)) (y3 + (1 : Int32))) else (FX7_neededBy_L54 n V x1 wV2 (y2 ||| ((1 : Int32) <<< (y3 &&& 31))) (y3 + (1 : Int32)))))) := rfl
def FX7_neededBy (V : az_St) (x1 : Int32) : Option (Int32 × (Nat → Int32)) := (FX7_isBlock V x1).bind (fun o3 => if o3 = (0 : Int32) then (az_lt (upd (V 2) 1 (1 : Int32)) (fun u14 => if u14 1 ≤ (0 : Int32) then ((FX7_snapshotsOf (va_up V 2 u14) x1).bind (fun o28 => (FX7_ofBlock (va_up V 2 u14) x1 (0 : Int32)).bind (fun o37 => if o37 = (1 : Int32) then (FX7_neededBy_L54 az_fuel V x1 u14 ((o28 <<< ((8 : Int32) &&& 31)) ||| (65536 : Int32)) (0 : Int32)) else (FX7_neededBy_L54 az_fuel V x1 u14 ((o28 <<< ((8 : Int32) &&& 31)) ||| (0 : Int32)) (0 : Int32))))) else (some ((0 : Int32), u14)))) else (az_lt (upd (V 2) 1 (0 : Int32)) (fun u14 => if u14 1 ≤ (0 : Int32) then ((FX7_snapshotsOf (va_up V 2 u14) x1).bind (fun o28 => (FX7_ofBlock (va_up V 2 u14) x1 (0 : Int32)).bind (fun o37 => if o37 = (1 : Int32) then (FX7_neededBy_L54 az_fuel V x1 u14 ((o28 <<< ((8 : Int32) &&& 31)) ||| (65536 : Int32)) (0 : Int32)) else (FX7_neededBy_L54 az_fuel V x1 u14 ((o28 <<< ((8 : Int32) &&& 31)) ||| (0 : Int32)) (0 : Int32))))) else (some ((0 : Int32), u14)))))
theorem inX7_neededBy_RX7 : ∀ w ∈ wsX70, w ∈ wsX7_neededBy := az_inr [36, 37, 38, 39, 40] (by decide +kernel)
set_option maxHeartbeats 4000000 in
set_option maxRecDepth 100000 in
theorem kX7_neededBy (l : Launch) (g : az_G) (ad : Nat → Nat) (V : az_St) (x1 : Int32) (o : Int32 × (Nat → Int32)) (h : FX7_neededBy V x1 = some o) : az_I l yX7_neededBy wsX7_neededBy ({ frames := 3, cells := 0, slots := 0, locals := 67 } : Room) [.ref (ad 0), .int x1] g (az_cM g ad V) o.1 (az_cM g ad (va_up V 2 o.2)) := by
  refine az_body (cc := cX7_neededBy) (maxL := 4) (ret := (some .int)) (Qc := fun A => az_QI g (az_cM g ad (va_up V 2 o.2)) o.1 A) (by decide +kernel) rfl (Nat.le_of_ble_eq_true rfl) ?_
  intro p e s m args below meth c A hx hb hr hts hown hml hlocks hA hK hP hD hS ls hl
  have hl : lv_has ls 4 [(0, .ref (ad 0)), (1, .int x1)] := hl
  unfold FX7_neededBy at h
  have hL54 : ∀ (n : Nat) (wV2 : Nat → Int32) (y2 : Int32) (y3 : Int32) (H : Heap) (locs : List Loc) (ls : Array Slot), FX7_neededBy_L54 n V x1 wV2 y2 y3 = some o → va_P g.1 az_cl (az_cM g ad (va_up V 2 wV2)) H → va_D A (az_cM g ad (va_up V 2 wV2)) → va_S A s.heap H locs → lv_has ls 4 [(0, .ref (ad 0)), (1, .int x1), (2, .int y2), (3, .int y3)] → W p l e ({ frames := 3, cells := 0, slots := 0, locals := 67 } : Room) s m args below meth c H locs 0 0 (MQ below (az_QI g (az_cM g ad (va_up V 2 o.2)) o.1 A) args s 0 0 A) (F0 m 54 ls []) := by
    intro n
    induction n with
    | zero => intro wV2 y2 y3 H locs ls h; exact az_non h
    | succ n ih =>
      intro wV2 y2 y3 H locs ls h hP hD hS hl
      rw [FX7_neededBy_L54_s] at h
      refine lv_iload_n hx hb dX7_neededBy_54 rfl (lv_at hl 3 rfl) ?_
      refine lv_bipush (v := (6 : Int32)) hx hb dX7_neededBy_55 (by decide) ?_
      refine lv_icmp_ge (tgt := 85) hx hb dX7_neededBy_57 (by decide) (fun c57 => ?_) (fun c57 => ?_)
      · replace h := az_pos c57 h
        refine lv_iload_n hx hb dX7_neededBy_85 rfl (lv_at hl 2 rfl) ?_
        have hP : va_P g.1 az_cl (az_cM g ad (va_up V 2 wV2)) _ := hP
        have hD : va_D A (az_cM g ad (va_up V 2 wV2)) := hD
        rw [← Option.some.inj h]
        exact az_iret hx hb hr hlocks hK hP hD hS dX7_neededBy_86
      · replace h := az_neg c57 h
        refine lv_iload_n hx hb dX7_neededBy_60 rfl (lv_at hl 2 rfl) ?_
        refine lv_aload_n hx hb dX7_neededBy_61 rfl (lv_at hl 0 rfl) ?_
        refine lv_iload_n hx hb dX7_neededBy_62 rfl (lv_at hl 3 rfl) ?_
        refine lv_iload_n hx hb dX7_neededBy_63 rfl (lv_at hl 1 rfl) ?_
        obtain ⟨o64, hc64, h⟩ := az_bnd h
        refine az_callVi (w2 := az_cM g ad (va_up V 2 wV2)) (As := [.int y3, .int x1]) (rest := [.int y2]) ⟨hx, hb, hml, hown, hts⟩ hl.1 (kX7_holds l g ad (va_up V 2 wV2) y3 x1 o64 hc64) (cwV 2 hts gX7_neededBy_X7_holds rfl rfl rfl (by decide +kernel) ⟨Nat.le_of_ble_eq_true rfl, Nat.le_of_ble_eq_true rfl⟩) rfl hK hP hD hS hA [0, 1, 2, 3] [] [0, 1, 2, 3] rfl rfl rfl rfl rfl (by decide) rfl rfl rfl 0 rfl rfl rfl (Nat.le_of_ble_eq_true rfl) dX7_neededBy_64 ⟨Nat.zero_le _, Nat.zero_le _⟩ rfl (fun H locs hP hD hS => ?_)
        refine lv_if_eq (tgt := 76) hx hb dX7_neededBy_67 (by decide) (fun c67 => ?_) (fun c67 => ?_)
        · replace h := az_pos c67 h
          refine lv_iconst (v := (0 : Int32)) hx hb dX7_neededBy_76 (by decide) ?_
          refine lv_ior hx hb dX7_neededBy_77 ?_
          refine lv_istore_n (lv' := [(2, .int (y2 ||| (0 : Int32))), (0, .ref (ad 0)), (1, .int x1), (3, .int y3)]) hx hb dX7_neededBy_78 rfl hl (by decide) rfl (fun ls hl => ?_)
          refine lv_iinc (v := y3 + (1 : Int32)) (lv' := [(3, .int (y3 + (1 : Int32))), (2, .int (y2 ||| (0 : Int32))), (0, .ref (ad 0)), (1, .int x1)]) hx hb dX7_neededBy_79 hl (k := 3) rfl (rfl) (by decide) rfl (fun ls hl => ?_)
          refine lv_goto (tgt := 54) hx hb dX7_neededBy_82 (by decide) ?_
          have hP : va_P g.1 az_cl (az_cM g ad (va_up V 2 wV2)) _ := hP
          have hD : va_D A (az_cM g ad (va_up V 2 wV2)) := hD
          exact ih wV2 (y2 ||| (0 : Int32)) (y3 + (1 : Int32)) _ _ ls h hP hD hS (lv_sub hl [2, 3, 1, 0] rfl)
        · replace h := az_neg c67 h
          refine lv_iconst (v := (1 : Int32)) hx hb dX7_neededBy_70 (by decide) ?_
          refine lv_iload_n hx hb dX7_neededBy_71 rfl (lv_at hl 3 rfl) ?_
          refine lv_ishl hx hb dX7_neededBy_72 ?_
          refine lv_goto (tgt := 77) hx hb dX7_neededBy_73 (by decide) ?_
          refine lv_ior hx hb dX7_neededBy_77 ?_
          refine lv_istore_n (lv' := [(2, .int (y2 ||| ((1 : Int32) <<< (y3 &&& 31)))), (0, .ref (ad 0)), (1, .int x1), (3, .int y3)]) hx hb dX7_neededBy_78 rfl hl (by decide) rfl (fun ls hl => ?_)
          refine lv_iinc (v := y3 + (1 : Int32)) (lv' := [(3, .int (y3 + (1 : Int32))), (2, .int (y2 ||| ((1 : Int32) <<< (y3 &&& 31)))), (0, .ref (ad 0)), (1, .int x1)]) hx hb dX7_neededBy_79 hl (k := 3) rfl (rfl) (by decide) rfl (fun ls hl => ?_)
          refine lv_goto (tgt := 54) hx hb dX7_neededBy_82 (by decide) ?_
          have hP : va_P g.1 az_cl (az_cM g ad (va_up V 2 wV2)) _ := hP
          have hD : va_D A (az_cM g ad (va_up V 2 wV2)) := hD
          exact ih wV2 (y2 ||| ((1 : Int32) <<< (y3 &&& 31))) (y3 + (1 : Int32)) _ _ ls h hP hD hS (lv_sub hl [2, 3, 1, 0] rfl)
  refine lv_aload_n hx hb dX7_neededBy_0 rfl (lv_at hl 0 rfl) ?_
  refine lv_aload_n hx hb dX7_neededBy_1 rfl (lv_at hl 0 rfl) ?_
  refine lv_iload_n hx hb dX7_neededBy_2 rfl (lv_at hl 1 rfl) ?_
  obtain ⟨o3, hc3, h⟩ := az_bnd h
  refine az_callVi (w2 := az_cM g ad V) (As := [.int x1]) (rest := [.ref (ad 0)]) ⟨hx, hb, hml, hown, hts⟩ hl.1 (kX7_isBlock l g ad V x1 o3 hc3) (cwV 1 hts gX7_neededBy_X7_isBlock rfl rfl rfl (by decide +kernel) ⟨Nat.le_of_ble_eq_true rfl, Nat.le_of_ble_eq_true rfl⟩) rfl hK hP hD hS hA [0, 1, 2, 3] [] [0, 1, 2, 3] rfl rfl rfl rfl rfl (by decide) rfl rfl rfl 0 rfl rfl rfl (Nat.le_of_ble_eq_true rfl) dX7_neededBy_3 ⟨Nat.zero_le _, Nat.zero_le _⟩ rfl (fun H locs hP hD hS => ?_)
  refine lv_if_eq (tgt := 13) hx hb dX7_neededBy_6 (by decide) (fun c6 => ?_) (fun c6 => ?_)
  · replace h := az_pos c6 h
    refine lv_iconst (v := (1 : Int32)) hx hb dX7_neededBy_13 (by decide) ?_
    refine va_put (D := g.1) (ci := 7) (v := .int (1 : Int32)) (ty := .int) (C := RX7) (T := TX7) (N := 5) hx hb hts inX7_neededBy_RX7 tyX7 tyX7_ok nmX7 hown hK hP hD hS 0 rfl rfl 3 (Nat.le_of_ble_eq_true rfl) (hts _ (List.mem_of_getElem? (i := 1) rfl)) (fun _ h9 => h9) rfl (by decide +kernel) rfl rfl (Nat.le_of_ble_eq_true rfl) dX7_neededBy_14 (fun H locs hP hD hS => ?_)
    obtain ⟨u14, e14⟩ : ∃ w : Nat → Int32, w = upd (V 2) 1 (1 : Int32) := ⟨_, rfl⟩
    have hP : va_P g.1 az_cl (az_cM g ad (va_up V 2 u14)) H := by rw [e14]; exact hP
    have hD : va_D A (az_cM g ad (va_up V 2 u14)) := by rw [e14]; exact hD
    replace h := az_let e14 h
    refine lv_aload_n hx hb dX7_neededBy_17 rfl (lv_at hl 0 rfl) ?_
    refine va_get (D := g.1) (ci := 7) (v := .int (u14 1)) (C := RX7) (T := TX7) (N := 5) hx hb hts inX7_neededBy_RX7 hown hK hP 0 rfl rfl 3 (Nat.le_of_ble_eq_true rfl) (hts _ (List.mem_of_getElem? (i := 1) rfl)) (fun _ h9 => h9) rfl dX7_neededBy_18 ?_
    refine lv_if_le (tgt := 26) hx hb dX7_neededBy_21 (by decide) (fun c21 => ?_) (fun c21 => ?_)
    · replace h := az_pos c21 h
      refine lv_aload_n hx hb dX7_neededBy_26 rfl (lv_at hl 0 rfl) ?_
      refine lv_iload_n hx hb dX7_neededBy_27 rfl (lv_at hl 1 rfl) ?_
      obtain ⟨o28, hc28, h⟩ := az_bnd h
      refine az_callVi (w2 := az_cM g ad (va_up V 2 u14)) (As := [.int x1]) (rest := []) ⟨hx, hb, hml, hown, hts⟩ hl.1 (kX7_snapshotsOf l g ad (va_up V 2 u14) x1 o28 hc28) (cwV 1 hts gX7_neededBy_X7_snapshotsOf rfl rfl rfl (by decide +kernel) ⟨Nat.le_of_ble_eq_true rfl, Nat.le_of_ble_eq_true rfl⟩) rfl hK hP hD hS hA [0, 1, 2, 3] [] [0, 1, 2, 3] rfl rfl rfl rfl rfl (by decide) rfl rfl rfl 0 rfl rfl rfl (Nat.le_of_ble_eq_true rfl) dX7_neededBy_28 ⟨Nat.zero_le _, Nat.zero_le _⟩ rfl (fun H locs hP hD hS => ?_)
      refine lv_bipush (v := (8 : Int32)) hx hb dX7_neededBy_31 (by decide) ?_
      refine lv_ishl hx hb dX7_neededBy_33 ?_
      refine lv_aload_n hx hb dX7_neededBy_34 rfl (lv_at hl 0 rfl) ?_
      refine lv_iload_n hx hb dX7_neededBy_35 rfl (lv_at hl 1 rfl) ?_
      refine lv_iconst (v := (0 : Int32)) hx hb dX7_neededBy_36 (by decide) ?_
      obtain ⟨o37, hc37, h⟩ := az_bnd h
      refine az_callVi (w2 := az_cM g ad (va_up V 2 u14)) (As := [.int x1, .int (0 : Int32)]) (rest := [.int (o28 <<< ((8 : Int32) &&& 31))]) ⟨hx, hb, hml, hown, hts⟩ hl.1 (kX7_ofBlock l g ad (va_up V 2 u14) x1 (0 : Int32) o37 hc37) (cwV 2 hts gX7_neededBy_X7_ofBlock rfl rfl rfl (by decide +kernel) ⟨Nat.le_of_ble_eq_true rfl, Nat.le_of_ble_eq_true rfl⟩) rfl hK hP hD hS hA [0, 1, 2, 3] [] [0, 1, 2, 3] rfl rfl rfl rfl rfl (by decide) rfl rfl rfl 0 rfl rfl rfl (Nat.le_of_ble_eq_true rfl) dX7_neededBy_37 ⟨Nat.zero_le _, Nat.zero_le _⟩ rfl (fun H locs hP hD hS => ?_)
      refine lv_iconst (v := (1 : Int32)) hx hb dX7_neededBy_40 (by decide) ?_
      refine lv_icmp_ne (tgt := 49) hx hb dX7_neededBy_41 (by decide) (fun c41 => ?_) (fun c41 => ?_)
      · replace h := az_neg c41 h
        refine lv_iconst (v := (0 : Int32)) hx hb dX7_neededBy_49 (by decide) ?_
        refine lv_ior hx hb dX7_neededBy_50 ?_
        refine lv_istore_n (lv' := [(2, .int ((o28 <<< ((8 : Int32) &&& 31)) ||| (0 : Int32))), (0, .ref (ad 0)), (1, .int x1)]) hx hb dX7_neededBy_51 rfl hl (by decide) rfl (fun ls hl => ?_)
        refine lv_iconst (v := (0 : Int32)) hx hb dX7_neededBy_52 (by decide) ?_
        refine lv_istore_n (lv' := [(3, .int (0 : Int32)), (2, .int ((o28 <<< ((8 : Int32) &&& 31)) ||| (0 : Int32))), (0, .ref (ad 0)), (1, .int x1)]) hx hb dX7_neededBy_53 rfl hl (by decide) rfl (fun ls hl => ?_)
        have hP : va_P g.1 az_cl (az_cM g ad (va_up V 2 u14)) _ := hP
        have hD : va_D A (az_cM g ad (va_up V 2 u14)) := hD
        exact hL54 az_fuel u14 ((o28 <<< ((8 : Int32) &&& 31)) ||| (0 : Int32)) (0 : Int32) _ _ ls h hP hD hS (lv_sub hl [2, 3, 1, 0] rfl)
      · replace h := az_pos c41 h
        refine lv_ldc (v := (65536 : Int32)) hx hb hown (hts _ (List.mem_of_getElem? (i := 2) rfl)) dX7_neededBy_44 ?_
        refine lv_goto (tgt := 50) hx hb dX7_neededBy_46 (by decide) ?_
        refine lv_ior hx hb dX7_neededBy_50 ?_
        refine lv_istore_n (lv' := [(2, .int ((o28 <<< ((8 : Int32) &&& 31)) ||| (65536 : Int32))), (0, .ref (ad 0)), (1, .int x1)]) hx hb dX7_neededBy_51 rfl hl (by decide) rfl (fun ls hl => ?_)
        refine lv_iconst (v := (0 : Int32)) hx hb dX7_neededBy_52 (by decide) ?_
        refine lv_istore_n (lv' := [(3, .int (0 : Int32)), (2, .int ((o28 <<< ((8 : Int32) &&& 31)) ||| (65536 : Int32))), (0, .ref (ad 0)), (1, .int x1)]) hx hb dX7_neededBy_53 rfl hl (by decide) rfl (fun ls hl => ?_)
        have hP : va_P g.1 az_cl (az_cM g ad (va_up V 2 u14)) _ := hP
        have hD : va_D A (az_cM g ad (va_up V 2 u14)) := hD
        exact hL54 az_fuel u14 ((o28 <<< ((8 : Int32) &&& 31)) ||| (65536 : Int32)) (0 : Int32) _ _ ls h hP hD hS (lv_sub hl [2, 3, 1, 0] rfl)
    · replace h := az_neg c21 h
      refine lv_iconst (v := (0 : Int32)) hx hb dX7_neededBy_24 (by decide) ?_
      have hP : va_P g.1 az_cl (az_cM g ad (va_up V 2 u14)) _ := hP
      have hD : va_D A (az_cM g ad (va_up V 2 u14)) := hD
      rw [← Option.some.inj h]
      exact az_iret hx hb hr hlocks hK hP hD hS dX7_neededBy_25
  · replace h := az_neg c6 h
    refine lv_iconst (v := (0 : Int32)) hx hb dX7_neededBy_9 (by decide) ?_
    refine lv_goto (tgt := 14) hx hb dX7_neededBy_10 (by decide) ?_
    refine va_put (D := g.1) (ci := 7) (v := .int (0 : Int32)) (ty := .int) (C := RX7) (T := TX7) (N := 5) hx hb hts inX7_neededBy_RX7 tyX7 tyX7_ok nmX7 hown hK hP hD hS 0 rfl rfl 3 (Nat.le_of_ble_eq_true rfl) (hts _ (List.mem_of_getElem? (i := 1) rfl)) (fun _ h9 => h9) rfl (by decide +kernel) rfl rfl (Nat.le_of_ble_eq_true rfl) dX7_neededBy_14 (fun H locs hP hD hS => ?_)
    obtain ⟨u14, e14⟩ : ∃ w : Nat → Int32, w = upd (V 2) 1 (0 : Int32) := ⟨_, rfl⟩
    have hP : va_P g.1 az_cl (az_cM g ad (va_up V 2 u14)) H := by rw [e14]; exact hP
    have hD : va_D A (az_cM g ad (va_up V 2 u14)) := by rw [e14]; exact hD
    replace h := az_let e14 h
    refine lv_aload_n hx hb dX7_neededBy_17 rfl (lv_at hl 0 rfl) ?_
    refine va_get (D := g.1) (ci := 7) (v := .int (u14 1)) (C := RX7) (T := TX7) (N := 5) hx hb hts inX7_neededBy_RX7 hown hK hP 0 rfl rfl 3 (Nat.le_of_ble_eq_true rfl) (hts _ (List.mem_of_getElem? (i := 1) rfl)) (fun _ h9 => h9) rfl dX7_neededBy_18 ?_
    refine lv_if_le (tgt := 26) hx hb dX7_neededBy_21 (by decide) (fun c21 => ?_) (fun c21 => ?_)
    · replace h := az_pos c21 h
      refine lv_aload_n hx hb dX7_neededBy_26 rfl (lv_at hl 0 rfl) ?_
      refine lv_iload_n hx hb dX7_neededBy_27 rfl (lv_at hl 1 rfl) ?_
      obtain ⟨o28, hc28, h⟩ := az_bnd h
      refine az_callVi (w2 := az_cM g ad (va_up V 2 u14)) (As := [.int x1]) (rest := []) ⟨hx, hb, hml, hown, hts⟩ hl.1 (kX7_snapshotsOf l g ad (va_up V 2 u14) x1 o28 hc28) (cwV 1 hts gX7_neededBy_X7_snapshotsOf rfl rfl rfl (by decide +kernel) ⟨Nat.le_of_ble_eq_true rfl, Nat.le_of_ble_eq_true rfl⟩) rfl hK hP hD hS hA [0, 1, 2, 3] [] [0, 1, 2, 3] rfl rfl rfl rfl rfl (by decide) rfl rfl rfl 0 rfl rfl rfl (Nat.le_of_ble_eq_true rfl) dX7_neededBy_28 ⟨Nat.zero_le _, Nat.zero_le _⟩ rfl (fun H locs hP hD hS => ?_)
      refine lv_bipush (v := (8 : Int32)) hx hb dX7_neededBy_31 (by decide) ?_
      refine lv_ishl hx hb dX7_neededBy_33 ?_
      refine lv_aload_n hx hb dX7_neededBy_34 rfl (lv_at hl 0 rfl) ?_
      refine lv_iload_n hx hb dX7_neededBy_35 rfl (lv_at hl 1 rfl) ?_
      refine lv_iconst (v := (0 : Int32)) hx hb dX7_neededBy_36 (by decide) ?_
      obtain ⟨o37, hc37, h⟩ := az_bnd h
      refine az_callVi (w2 := az_cM g ad (va_up V 2 u14)) (As := [.int x1, .int (0 : Int32)]) (rest := [.int (o28 <<< ((8 : Int32) &&& 31))]) ⟨hx, hb, hml, hown, hts⟩ hl.1 (kX7_ofBlock l g ad (va_up V 2 u14) x1 (0 : Int32) o37 hc37) (cwV 2 hts gX7_neededBy_X7_ofBlock rfl rfl rfl (by decide +kernel) ⟨Nat.le_of_ble_eq_true rfl, Nat.le_of_ble_eq_true rfl⟩) rfl hK hP hD hS hA [0, 1, 2, 3] [] [0, 1, 2, 3] rfl rfl rfl rfl rfl (by decide) rfl rfl rfl 0 rfl rfl rfl (Nat.le_of_ble_eq_true rfl) dX7_neededBy_37 ⟨Nat.zero_le _, Nat.zero_le _⟩ rfl (fun H locs hP hD hS => ?_)
      refine lv_iconst (v := (1 : Int32)) hx hb dX7_neededBy_40 (by decide) ?_
      refine lv_icmp_ne (tgt := 49) hx hb dX7_neededBy_41 (by decide) (fun c41 => ?_) (fun c41 => ?_)
      · replace h := az_neg c41 h
        refine lv_iconst (v := (0 : Int32)) hx hb dX7_neededBy_49 (by decide) ?_
        refine lv_ior hx hb dX7_neededBy_50 ?_
        refine lv_istore_n (lv' := [(2, .int ((o28 <<< ((8 : Int32) &&& 31)) ||| (0 : Int32))), (0, .ref (ad 0)), (1, .int x1)]) hx hb dX7_neededBy_51 rfl hl (by decide) rfl (fun ls hl => ?_)
        refine lv_iconst (v := (0 : Int32)) hx hb dX7_neededBy_52 (by decide) ?_
        refine lv_istore_n (lv' := [(3, .int (0 : Int32)), (2, .int ((o28 <<< ((8 : Int32) &&& 31)) ||| (0 : Int32))), (0, .ref (ad 0)), (1, .int x1)]) hx hb dX7_neededBy_53 rfl hl (by decide) rfl (fun ls hl => ?_)
        have hP : va_P g.1 az_cl (az_cM g ad (va_up V 2 u14)) _ := hP
        have hD : va_D A (az_cM g ad (va_up V 2 u14)) := hD
        exact hL54 az_fuel u14 ((o28 <<< ((8 : Int32) &&& 31)) ||| (0 : Int32)) (0 : Int32) _ _ ls h hP hD hS (lv_sub hl [2, 3, 1, 0] rfl)
      · replace h := az_pos c41 h
        refine lv_ldc (v := (65536 : Int32)) hx hb hown (hts _ (List.mem_of_getElem? (i := 2) rfl)) dX7_neededBy_44 ?_
        refine lv_goto (tgt := 50) hx hb dX7_neededBy_46 (by decide) ?_
        refine lv_ior hx hb dX7_neededBy_50 ?_
        refine lv_istore_n (lv' := [(2, .int ((o28 <<< ((8 : Int32) &&& 31)) ||| (65536 : Int32))), (0, .ref (ad 0)), (1, .int x1)]) hx hb dX7_neededBy_51 rfl hl (by decide) rfl (fun ls hl => ?_)
        refine lv_iconst (v := (0 : Int32)) hx hb dX7_neededBy_52 (by decide) ?_
        refine lv_istore_n (lv' := [(3, .int (0 : Int32)), (2, .int ((o28 <<< ((8 : Int32) &&& 31)) ||| (65536 : Int32))), (0, .ref (ad 0)), (1, .int x1)]) hx hb dX7_neededBy_53 rfl hl (by decide) rfl (fun ls hl => ?_)
        have hP : va_P g.1 az_cl (az_cM g ad (va_up V 2 u14)) _ := hP
        have hD : va_D A (az_cM g ad (va_up V 2 u14)) := hD
        exact hL54 az_fuel u14 ((o28 <<< ((8 : Int32) &&& 31)) ||| (65536 : Int32)) (0 : Int32) _ _ ls h hP hD hS (lv_sub hl [2, 3, 1, 0] rfl)
    · replace h := az_neg c21 h
      refine lv_iconst (v := (0 : Int32)) hx hb dX7_neededBy_24 (by decide) ?_
      have hP : va_P g.1 az_cl (az_cM g ad (va_up V 2 u14)) _ := hP
      have hD : va_D A (az_cM g ad (va_up V 2 u14)) := hD
      rw [← Option.some.inj h]
      exact az_iret hx hb hr hlocks hK hP hD hS dX7_neededBy_25

def FX7_waiting_L34 : Nat → az_St → Int32 → (Nat → Int32) → Int32 → Int32 → Option (Int32 × (Nat → Int32))
  | 0, _, _, _, _, _ => none
  | n + 1, V, x1, wV2, y2, y3 => if (16 : Int32) * ((V 0) (0 : Int32).toNatClampNeg) ≤ y3 then (some (y2, wV2)) else ((FX7_isBlock (va_up V 2 wV2) y3).bind (fun o50 => if o50 = (0 : Int32) then (FX7_waiting_L34 n V x1 wV2 (y2 + (0 : Int32)) (y3 + (1 : Int32))) else ((FX7_ofBlock (va_up V 2 wV2) y3 (0 : Int32)).bind (fun o59 => if o59 = (3 : Int32) then ((FX7_advancesFor (va_up V 2 wV2) y3).bind (fun o68 => if o68 = x1 then (FX7_waiting_L34 n V x1 wV2 (y2 + (1 : Int32)) (y3 + (1 : Int32))) else (FX7_waiting_L34 n V x1 wV2 (y2 + (0 : Int32)) (y3 + (1 : Int32))))) else (FX7_waiting_L34 n V x1 wV2 (y2 + (0 : Int32)) (y3 + (1 : Int32)))))))
theorem FX7_waiting_L34_s (n : Nat) (V : az_St) (x1 : Int32) (wV2 : Nat → Int32) (y2 : Int32) (y3 : Int32) : FX7_waiting_L34 (n + 1) V x1 wV2 y2 y3 = (if (16 : Int32) * ((V 0) (0 : Int32).toNatClampNeg) ≤ y3 then (some (y2, wV2)) else ((FX7_isBlock (va_up V 2 wV2) y3).bind (fun o50 => if o50 = (0 : Int32) then (FX7_waiting_L34 n V x1 wV2 (y2 + (0 : Int32)) (y3 + (1 : Int32))) else ((FX7_ofBlock (va_up V 2 wV2) y3 (0 : Int32)).bind (fun o59 => if o59 = (3 : Int32) then ((FX7_advancesFor (va_up V 2 wV2) y3).bind (fun o68 => if o68 = x1 then (FX7_waiting_L34 n V x1 wV2 (y2 + (1 : Int32)) (y3 + (1 : Int32))) else (FX7_waiting_L34 n V x1 wV2 (y2 + (0 : Int32)) (y3 + (1 : Int32))))) else (FX7_waiting_L34 n V x1 wV2 (y2 + (0 : Int32)) (y3 + (1 : Int32)))))))) := rfl
def FX7_waiting (V : az_St) (x1 : Int32) : Option (Int32 × (Nat → Int32)) := (FX7_isIn x1.toInt64 (0 : Int64) (2 : Int64)).bind (fun o7 => if o7 = (0 : Int32) then (az_lt (upd (V 2) 1 (1 : Int32)) (fun u18 => if u18 1 ≤ (0 : Int32) then (FX7_waiting_L34 az_fuel V x1 u18 (0 : Int32) (0 : Int32)) else (some ((0 : Int32), u18)))) else (az_lt (upd (V 2) 1 (0 : Int32)) (fun u18 => if u18 1 ≤ (0 : Int32) then (FX7_waiting_L34 az_fuel V x1 u18 (0 : Int32) (0 : Int32)) else (some ((0 : Int32), u18)))))
theorem inX7_waiting_RX7 : ∀ w ∈ wsX70, w ∈ wsX7_waiting := az_inr [24, 25, 26, 27, 28] (by decide +kernel)
set_option maxHeartbeats 4000000 in
set_option maxRecDepth 100000 in
theorem kX7_waiting (l : Launch) (g : az_G) (ad : Nat → Nat) (V : az_St) (x1 : Int32) (o : Int32 × (Nat → Int32)) (h : FX7_waiting V x1 = some o) : az_I l yX7_waiting wsX7_waiting ({ frames := 3, cells := 0, slots := 0, locals := 67 } : Room) [.ref (ad 0), .int x1] g (az_cM g ad V) o.1 (az_cM g ad (va_up V 2 o.2)) := by
  refine az_body (cc := cX7_waiting) (maxL := 4) (ret := (some .int)) (Qc := fun A => az_QI g (az_cM g ad (va_up V 2 o.2)) o.1 A) (by decide +kernel) rfl (Nat.le_of_ble_eq_true rfl) ?_
  intro p e s m args below meth c A hx hb hr hts hown hml hlocks hA hK hP hD hS ls hl
  have hl : lv_has ls 4 [(0, .ref (ad 0)), (1, .int x1)] := hl
  unfold FX7_waiting at h
  have hL34 : ∀ (n : Nat) (wV2 : Nat → Int32) (y2 : Int32) (y3 : Int32) (H : Heap) (locs : List Loc) (ls : Array Slot), FX7_waiting_L34 n V x1 wV2 y2 y3 = some o → va_P g.1 az_cl (az_cM g ad (va_up V 2 wV2)) H → va_D A (az_cM g ad (va_up V 2 wV2)) → va_S A s.heap H locs → lv_has ls 4 [(0, .ref (ad 0)), (1, .int x1), (2, .int y2), (3, .int y3)] → W p l e ({ frames := 3, cells := 0, slots := 0, locals := 67 } : Room) s m args below meth c H locs 0 0 (MQ below (az_QI g (az_cM g ad (va_up V 2 o.2)) o.1 A) args s 0 0 A) (F0 m 34 ls []) := by
    intro n
    induction n with
    | zero => intro wV2 y2 y3 H locs ls h; exact az_non h
    | succ n ih =>
      intro wV2 y2 y3 H locs ls h hP hD hS hl
      rw [FX7_waiting_L34_s] at h
      refine lv_iload_n hx hb dX7_waiting_34 rfl (lv_at hl 3 rfl) ?_
      refine lv_bipush (v := (16 : Int32)) hx hb dX7_waiting_35 (by decide) ?_
      refine lv_aload_n hx hb dX7_waiting_37 rfl (lv_at hl 0 rfl) ?_
      refine va_get (D := g.1) (ci := 7) (v := .ref (ad 1)) (C := RX7) (T := TX7) (N := 5) hx hb hts inX7_waiting_RX7 hown hK hP 0 rfl rfl 0 (Nat.le_of_ble_eq_true rfl) (hts _ (List.mem_of_getElem? (i := 3) rfl)) (fun _ h9 => h9) rfl dX7_waiting_38 ?_
      refine lv_iconst (v := (0 : Int32)) hx hb dX7_waiting_41 (by decide) ?_
      refine va_iald (D := g.1) (f := (V 0)) hx hb hK hP 1 0 rfl rfl (az_vin (by decide +kernel)) dX7_waiting_42 ?_
      refine lv_imul hx hb dX7_waiting_43 ?_
      refine lv_icmp_ge (tgt := 88) hx hb dX7_waiting_44 (by decide) (fun c44 => ?_) (fun c44 => ?_)
      · replace h := az_pos c44 h
        refine lv_iload_n hx hb dX7_waiting_88 rfl (lv_at hl 2 rfl) ?_
        have hP : va_P g.1 az_cl (az_cM g ad (va_up V 2 wV2)) _ := hP
        have hD : va_D A (az_cM g ad (va_up V 2 wV2)) := hD
        rw [← Option.some.inj h]
        exact az_iret hx hb hr hlocks hK hP hD hS dX7_waiting_89
      · replace h := az_neg c44 h
        refine lv_iload_n hx hb dX7_waiting_47 rfl (lv_at hl 2 rfl) ?_
        refine lv_aload_n hx hb dX7_waiting_48 rfl (lv_at hl 0 rfl) ?_
        refine lv_iload_n hx hb dX7_waiting_49 rfl (lv_at hl 3 rfl) ?_
        obtain ⟨o50, hc50, h⟩ := az_bnd h
        refine az_callVi (w2 := az_cM g ad (va_up V 2 wV2)) (As := [.int y3]) (rest := [.int y2]) ⟨hx, hb, hml, hown, hts⟩ hl.1 (kX7_isBlock l g ad (va_up V 2 wV2) y3 o50 hc50) (cwV 1 hts gX7_waiting_X7_isBlock rfl rfl rfl (by decide +kernel) ⟨Nat.le_of_ble_eq_true rfl, Nat.le_of_ble_eq_true rfl⟩) rfl hK hP hD hS hA [0, 1, 2, 3] [] [0, 1, 2, 3] rfl rfl rfl rfl rfl (by decide) rfl rfl rfl 0 rfl rfl rfl (Nat.le_of_ble_eq_true rfl) dX7_waiting_50 ⟨Nat.zero_le _, Nat.zero_le _⟩ rfl (fun H locs hP hD hS => ?_)
        refine lv_if_eq (tgt := 79) hx hb dX7_waiting_53 (by decide) (fun c53 => ?_) (fun c53 => ?_)
        · replace h := az_pos c53 h
          refine lv_iconst (v := (0 : Int32)) hx hb dX7_waiting_79 (by decide) ?_
          refine lv_iadd hx hb dX7_waiting_80 ?_
          refine lv_istore_n (lv' := [(2, .int (y2 + (0 : Int32))), (0, .ref (ad 0)), (1, .int x1), (3, .int y3)]) hx hb dX7_waiting_81 rfl hl (by decide) rfl (fun ls hl => ?_)
          refine lv_iinc (v := y3 + (1 : Int32)) (lv' := [(3, .int (y3 + (1 : Int32))), (2, .int (y2 + (0 : Int32))), (0, .ref (ad 0)), (1, .int x1)]) hx hb dX7_waiting_82 hl (k := 3) rfl (rfl) (by decide) rfl (fun ls hl => ?_)
          refine lv_goto (tgt := 34) hx hb dX7_waiting_85 (by decide) ?_
          have hP : va_P g.1 az_cl (az_cM g ad (va_up V 2 wV2)) _ := hP
          have hD : va_D A (az_cM g ad (va_up V 2 wV2)) := hD
          exact ih wV2 (y2 + (0 : Int32)) (y3 + (1 : Int32)) _ _ ls h hP hD hS (lv_sub hl [2, 3, 1, 0] rfl)
        · replace h := az_neg c53 h
          refine lv_aload_n hx hb dX7_waiting_56 rfl (lv_at hl 0 rfl) ?_
          refine lv_iload_n hx hb dX7_waiting_57 rfl (lv_at hl 3 rfl) ?_
          refine lv_iconst (v := (0 : Int32)) hx hb dX7_waiting_58 (by decide) ?_
          obtain ⟨o59, hc59, h⟩ := az_bnd h
          refine az_callVi (w2 := az_cM g ad (va_up V 2 wV2)) (As := [.int y3, .int (0 : Int32)]) (rest := [.int y2]) ⟨hx, hb, hml, hown, hts⟩ hl.1 (kX7_ofBlock l g ad (va_up V 2 wV2) y3 (0 : Int32) o59 hc59) (cwV 2 hts gX7_waiting_X7_ofBlock rfl rfl rfl (by decide +kernel) ⟨Nat.le_of_ble_eq_true rfl, Nat.le_of_ble_eq_true rfl⟩) rfl hK hP hD hS hA [0, 1, 2, 3] [] [0, 1, 2, 3] rfl rfl rfl rfl rfl (by decide) rfl rfl rfl 0 rfl rfl rfl (Nat.le_of_ble_eq_true rfl) dX7_waiting_59 ⟨Nat.zero_le _, Nat.zero_le _⟩ rfl (fun H locs hP hD hS => ?_)
          refine lv_iconst (v := (3 : Int32)) hx hb dX7_waiting_62 (by decide) ?_
          refine lv_icmp_ne (tgt := 79) hx hb dX7_waiting_63 (by decide) (fun c63 => ?_) (fun c63 => ?_)
          · replace h := az_neg c63 h
            refine lv_iconst (v := (0 : Int32)) hx hb dX7_waiting_79 (by decide) ?_
            refine lv_iadd hx hb dX7_waiting_80 ?_
            refine lv_istore_n (lv' := [(2, .int (y2 + (0 : Int32))), (0, .ref (ad 0)), (1, .int x1), (3, .int y3)]) hx hb dX7_waiting_81 rfl hl (by decide) rfl (fun ls hl => ?_)
            refine lv_iinc (v := y3 + (1 : Int32)) (lv' := [(3, .int (y3 + (1 : Int32))), (2, .int (y2 + (0 : Int32))), (0, .ref (ad 0)), (1, .int x1)]) hx hb dX7_waiting_82 hl (k := 3) rfl (rfl) (by decide) rfl (fun ls hl => ?_)
            refine lv_goto (tgt := 34) hx hb dX7_waiting_85 (by decide) ?_
            have hP : va_P g.1 az_cl (az_cM g ad (va_up V 2 wV2)) _ := hP
            have hD : va_D A (az_cM g ad (va_up V 2 wV2)) := hD
            exact ih wV2 (y2 + (0 : Int32)) (y3 + (1 : Int32)) _ _ ls h hP hD hS (lv_sub hl [2, 3, 1, 0] rfl)
          · replace h := az_pos c63 h
            refine lv_aload_n hx hb dX7_waiting_66 rfl (lv_at hl 0 rfl) ?_
            refine lv_iload_n hx hb dX7_waiting_67 rfl (lv_at hl 3 rfl) ?_
            obtain ⟨o68, hc68, h⟩ := az_bnd h
            refine az_callVi (w2 := az_cM g ad (va_up V 2 wV2)) (As := [.int y3]) (rest := [.int y2]) ⟨hx, hb, hml, hown, hts⟩ hl.1 (kX7_advancesFor l g ad (va_up V 2 wV2) y3 o68 hc68) (cwV 1 hts gX7_waiting_X7_advancesFor rfl rfl rfl (by decide +kernel) ⟨Nat.le_of_ble_eq_true rfl, Nat.le_of_ble_eq_true rfl⟩) rfl hK hP hD hS hA [0, 1, 2, 3] [] [0, 1, 2, 3] rfl rfl rfl rfl rfl (by decide) rfl rfl rfl 0 rfl rfl rfl (Nat.le_of_ble_eq_true rfl) dX7_waiting_68 ⟨Nat.zero_le _, Nat.zero_le _⟩ rfl (fun H locs hP hD hS => ?_)
            refine lv_iload_n hx hb dX7_waiting_71 rfl (lv_at hl 1 rfl) ?_
            refine lv_icmp_ne (tgt := 79) hx hb dX7_waiting_72 (by decide) (fun c72 => ?_) (fun c72 => ?_)
            · replace h := az_neg c72 h
              refine lv_iconst (v := (0 : Int32)) hx hb dX7_waiting_79 (by decide) ?_
              refine lv_iadd hx hb dX7_waiting_80 ?_
              refine lv_istore_n (lv' := [(2, .int (y2 + (0 : Int32))), (0, .ref (ad 0)), (1, .int x1), (3, .int y3)]) hx hb dX7_waiting_81 rfl hl (by decide) rfl (fun ls hl => ?_)
              refine lv_iinc (v := y3 + (1 : Int32)) (lv' := [(3, .int (y3 + (1 : Int32))), (2, .int (y2 + (0 : Int32))), (0, .ref (ad 0)), (1, .int x1)]) hx hb dX7_waiting_82 hl (k := 3) rfl (rfl) (by decide) rfl (fun ls hl => ?_)
              refine lv_goto (tgt := 34) hx hb dX7_waiting_85 (by decide) ?_
              have hP : va_P g.1 az_cl (az_cM g ad (va_up V 2 wV2)) _ := hP
              have hD : va_D A (az_cM g ad (va_up V 2 wV2)) := hD
              exact ih wV2 (y2 + (0 : Int32)) (y3 + (1 : Int32)) _ _ ls h hP hD hS (lv_sub hl [2, 3, 1, 0] rfl)
            · replace h := az_pos c72 h
              refine lv_iconst (v := (1 : Int32)) hx hb dX7_waiting_75 (by decide) ?_
              refine lv_goto (tgt := 80) hx hb dX7_waiting_76 (by decide) ?_
              refine lv_iadd hx hb dX7_waiting_80 ?_
              refine lv_istore_n (lv' := [(2, .int (y2 + (1 : Int32))), (0, .ref (ad 0)), (1, .int x1), (3, .int y3)]) hx hb dX7_waiting_81 rfl hl (by decide) rfl (fun ls hl => ?_)
              refine lv_iinc (v := y3 + (1 : Int32)) (lv' := [(3, .int (y3 + (1 : Int32))), (2, .int (y2 + (1 : Int32))), (0, .ref (ad 0)), (1, .int x1)]) hx hb dX7_waiting_82 hl (k := 3) rfl (rfl) (by decide) rfl (fun ls hl => ?_)
              refine lv_goto (tgt := 34) hx hb dX7_waiting_85 (by decide) ?_
              have hP : va_P g.1 az_cl (az_cM g ad (va_up V 2 wV2)) _ := hP
              have hD : va_D A (az_cM g ad (va_up V 2 wV2)) := hD
              exact ih wV2 (y2 + (1 : Int32)) (y3 + (1 : Int32)) _ _ ls h hP hD hS (lv_sub hl [2, 3, 1, 0] rfl)
  refine lv_aload_n hx hb dX7_waiting_0 rfl (lv_at hl 0 rfl) ?_
  refine lv_iload_n hx hb dX7_waiting_1 rfl (lv_at hl 1 rfl) ?_
  refine lv_i2l (v := x1.toInt64) hx hb dX7_waiting_2 rfl ?_
  refine lv_lconst (v := (0 : Int64)) hx hb dX7_waiting_3 (by decide) ?_
  refine lv_ldc2 (v := (2 : Int64)) hx hb hown (hts _ (List.mem_of_getElem? (i := 1) rfl)) dX7_waiting_4 ?_
  obtain ⟨o7, hc7, h⟩ := az_bnd h
  refine az_callS0 (As := [.long x1.toInt64, .long (0 : Int64), .long (2 : Int64)]) (rest := [.ref (ad 0)]) ⟨hx, hb, hml, hown, hts⟩ hl.1 (kX7_isIn l g x1.toInt64 (0 : Int64) (2 : Int64) o7 hc7) (va_cwS 3 hts gX7_waiting_X7_isIn rfl rfl rfl (by decide +kernel) ⟨Nat.le_of_ble_eq_true rfl, Nat.le_of_ble_eq_true rfl⟩) rfl hK hP hS hA (Nat.le_of_ble_eq_true rfl) dX7_waiting_7 ⟨Nat.zero_le _, Nat.zero_le _⟩ rfl (fun H locs hP hS => ?_)
  refine lv_if_eq (tgt := 17) hx hb dX7_waiting_10 (by decide) (fun c10 => ?_) (fun c10 => ?_)
  · replace h := az_pos c10 h
    refine lv_iconst (v := (1 : Int32)) hx hb dX7_waiting_17 (by decide) ?_
    refine va_put (D := g.1) (ci := 7) (v := .int (1 : Int32)) (ty := .int) (C := RX7) (T := TX7) (N := 5) hx hb hts inX7_waiting_RX7 tyX7 tyX7_ok nmX7 hown hK hP hD hS 0 rfl rfl 3 (Nat.le_of_ble_eq_true rfl) (hts _ (List.mem_of_getElem? (i := 2) rfl)) (fun _ h9 => h9) rfl (by decide +kernel) rfl rfl (Nat.le_of_ble_eq_true rfl) dX7_waiting_18 (fun H locs hP hD hS => ?_)
    obtain ⟨u18, e18⟩ : ∃ w : Nat → Int32, w = upd (V 2) 1 (1 : Int32) := ⟨_, rfl⟩
    have hP : va_P g.1 az_cl (az_cM g ad (va_up V 2 u18)) H := by rw [e18]; exact hP
    have hD : va_D A (az_cM g ad (va_up V 2 u18)) := by rw [e18]; exact hD
    replace h := az_let e18 h
    refine lv_aload_n hx hb dX7_waiting_21 rfl (lv_at hl 0 rfl) ?_
    refine va_get (D := g.1) (ci := 7) (v := .int (u18 1)) (C := RX7) (T := TX7) (N := 5) hx hb hts inX7_waiting_RX7 hown hK hP 0 rfl rfl 3 (Nat.le_of_ble_eq_true rfl) (hts _ (List.mem_of_getElem? (i := 2) rfl)) (fun _ h9 => h9) rfl dX7_waiting_22 ?_
    refine lv_if_le (tgt := 30) hx hb dX7_waiting_25 (by decide) (fun c25 => ?_) (fun c25 => ?_)
    · replace h := az_pos c25 h
      refine lv_iconst (v := (0 : Int32)) hx hb dX7_waiting_30 (by decide) ?_
      refine lv_istore_n (lv' := [(2, .int (0 : Int32)), (0, .ref (ad 0)), (1, .int x1)]) hx hb dX7_waiting_31 rfl hl (by decide) rfl (fun ls hl => ?_)
      refine lv_iconst (v := (0 : Int32)) hx hb dX7_waiting_32 (by decide) ?_
      refine lv_istore_n (lv' := [(3, .int (0 : Int32)), (2, .int (0 : Int32)), (0, .ref (ad 0)), (1, .int x1)]) hx hb dX7_waiting_33 rfl hl (by decide) rfl (fun ls hl => ?_)
      have hP : va_P g.1 az_cl (az_cM g ad (va_up V 2 u18)) _ := hP
      have hD : va_D A (az_cM g ad (va_up V 2 u18)) := hD
      exact hL34 az_fuel u18 (0 : Int32) (0 : Int32) _ _ ls h hP hD hS (lv_sub hl [2, 3, 1, 0] rfl)
    · replace h := az_neg c25 h
      refine lv_iconst (v := (0 : Int32)) hx hb dX7_waiting_28 (by decide) ?_
      have hP : va_P g.1 az_cl (az_cM g ad (va_up V 2 u18)) _ := hP
      have hD : va_D A (az_cM g ad (va_up V 2 u18)) := hD
      rw [← Option.some.inj h]
      exact az_iret hx hb hr hlocks hK hP hD hS dX7_waiting_29
  · replace h := az_neg c10 h
    refine lv_iconst (v := (0 : Int32)) hx hb dX7_waiting_13 (by decide) ?_
    refine lv_goto (tgt := 18) hx hb dX7_waiting_14 (by decide) ?_
    refine va_put (D := g.1) (ci := 7) (v := .int (0 : Int32)) (ty := .int) (C := RX7) (T := TX7) (N := 5) hx hb hts inX7_waiting_RX7 tyX7 tyX7_ok nmX7 hown hK hP hD hS 0 rfl rfl 3 (Nat.le_of_ble_eq_true rfl) (hts _ (List.mem_of_getElem? (i := 2) rfl)) (fun _ h9 => h9) rfl (by decide +kernel) rfl rfl (Nat.le_of_ble_eq_true rfl) dX7_waiting_18 (fun H locs hP hD hS => ?_)
    obtain ⟨u18, e18⟩ : ∃ w : Nat → Int32, w = upd (V 2) 1 (0 : Int32) := ⟨_, rfl⟩
    have hP : va_P g.1 az_cl (az_cM g ad (va_up V 2 u18)) H := by rw [e18]; exact hP
    have hD : va_D A (az_cM g ad (va_up V 2 u18)) := by rw [e18]; exact hD
    replace h := az_let e18 h
    refine lv_aload_n hx hb dX7_waiting_21 rfl (lv_at hl 0 rfl) ?_
    refine va_get (D := g.1) (ci := 7) (v := .int (u18 1)) (C := RX7) (T := TX7) (N := 5) hx hb hts inX7_waiting_RX7 hown hK hP 0 rfl rfl 3 (Nat.le_of_ble_eq_true rfl) (hts _ (List.mem_of_getElem? (i := 2) rfl)) (fun _ h9 => h9) rfl dX7_waiting_22 ?_
    refine lv_if_le (tgt := 30) hx hb dX7_waiting_25 (by decide) (fun c25 => ?_) (fun c25 => ?_)
    · replace h := az_pos c25 h
      refine lv_iconst (v := (0 : Int32)) hx hb dX7_waiting_30 (by decide) ?_
      refine lv_istore_n (lv' := [(2, .int (0 : Int32)), (0, .ref (ad 0)), (1, .int x1)]) hx hb dX7_waiting_31 rfl hl (by decide) rfl (fun ls hl => ?_)
      refine lv_iconst (v := (0 : Int32)) hx hb dX7_waiting_32 (by decide) ?_
      refine lv_istore_n (lv' := [(3, .int (0 : Int32)), (2, .int (0 : Int32)), (0, .ref (ad 0)), (1, .int x1)]) hx hb dX7_waiting_33 rfl hl (by decide) rfl (fun ls hl => ?_)
      have hP : va_P g.1 az_cl (az_cM g ad (va_up V 2 u18)) _ := hP
      have hD : va_D A (az_cM g ad (va_up V 2 u18)) := hD
      exact hL34 az_fuel u18 (0 : Int32) (0 : Int32) _ _ ls h hP hD hS (lv_sub hl [2, 3, 1, 0] rfl)
    · replace h := az_neg c25 h
      refine lv_iconst (v := (0 : Int32)) hx hb dX7_waiting_28 (by decide) ?_
      have hP : va_P g.1 az_cl (az_cM g ad (va_up V 2 u18)) _ := hP
      have hD : va_D A (az_cM g ad (va_up V 2 u18)) := hD
      rw [← Option.some.inj h]
      exact az_iret hx hb hr hlocks hK hP hD hS dX7_waiting_29

def FX7_erases_L5 : Nat → az_St → Int32 → (Nat → Int32) → Int32 → Option ((Nat → Int32))
  | 0, _, _, _, _ => none
  | n + 1, V, x1, wV0, y2 => if ((16 : Int32) * x1) + (wV0 (1 : Int32).toNatClampNeg) ≤ y2 then ((FX7_setSegment (va_up V 0 wV0) x1 (0 : Int32) (0 : Int32)).bind (fun o37 => (FX7_setSegment (va_up V 0 o37) x1 (1 : Int32) (0 : Int32)).bind (fun o44 => (FX7_ofSegment (va_up V 0 o44) x1 (2 : Int32)).bind (fun o53 => (FX7_setSegment (va_up V 0 o44) x1 (2 : Int32) (o53 + (1 : Int32))).bind (fun o58 => some (o58)))))) else ((FX7_setBlock (va_up V 0 wV0) y2 (0 : Int32) (0 : Int32)).bind (fun o24 => FX7_erases_L5 n V x1 o24 (y2 + (1 : Int32))))
theorem FX7_erases_L5_s (n : Nat) (V : az_St) (x1 : Int32) (wV0 : Nat → Int32) (y2 : Int32) : FX7_erases_L5 (n + 1) V x1 wV0 y2 = (if ((16 : Int32) * x1) + (wV0 (1 : Int32).toNatClampNeg) ≤ y2 then ((FX7_setSegment (va_up V 0 wV0) x1 (0 : Int32) (0 : Int32)).bind (fun o37 => (FX7_setSegment (va_up V 0 o37) x1 (1 : Int32) (0 : Int32)).bind (fun o44 => (FX7_ofSegment (va_up V 0 o44) x1 (2 : Int32)).bind (fun o53 => (FX7_setSegment (va_up V 0 o44) x1 (2 : Int32) (o53 + (1 : Int32))).bind (fun o58 => some (o58)))))) else ((FX7_setBlock (va_up V 0 wV0) y2 (0 : Int32) (0 : Int32)).bind (fun o24 => FX7_erases_L5 n V x1 o24 (y2 + (1 : Int32))))) := rfl
def FX7_erases (V : az_St) (x1 : Int32) : Option ((Nat → Int32)) := FX7_erases_L5 az_fuel V x1 (V 0) ((16 : Int32) * x1)
theorem inX7_erases_RX7 : ∀ w ∈ wsX70, w ∈ wsX7_erases := az_inr [15, 16, 17, 18, 19] (by decide +kernel)
set_option maxHeartbeats 4000000 in
set_option maxRecDepth 100000 in
theorem kX7_erases (l : Launch) (g : az_G) (ad : Nat → Nat) (V : az_St) (x1 : Int32) (o : (Nat → Int32)) (h : FX7_erases V x1 = some o) : az_V l yX7_erases wsX7_erases ({ frames := 1, cells := 0, slots := 0, locals := 23 } : Room) [.ref (ad 0), .int x1] g (az_cM g ad V) (az_cM g ad (va_up V 0 o)) := by
  refine az_body (cc := cX7_erases) (maxL := 3) (ret := none) (Qc := fun A => az_QV g (az_cM g ad (va_up V 0 o)) A) (by decide +kernel) rfl (Nat.le_of_ble_eq_true rfl) ?_
  intro p e s m args below meth c A hx hb hr hts hown hml hlocks hA hK hP hD hS ls hl
  have hl : lv_has ls 3 [(0, .ref (ad 0)), (1, .int x1)] := hl
  unfold FX7_erases at h
  have hL5 : ∀ (n : Nat) (wV0 : Nat → Int32) (y2 : Int32) (H : Heap) (locs : List Loc) (ls : Array Slot), FX7_erases_L5 n V x1 wV0 y2 = some o → va_P g.1 az_cl (az_cM g ad (va_up V 0 wV0)) H → va_D A (az_cM g ad (va_up V 0 wV0)) → va_S A s.heap H locs → lv_has ls 3 [(0, .ref (ad 0)), (1, .int x1), (2, .int y2)] → W p l e ({ frames := 1, cells := 0, slots := 0, locals := 23 } : Room) s m args below meth c H locs 0 0 (MQ below (az_QV g (az_cM g ad (va_up V 0 o)) A) args s 0 0 A) (F0 m 5 ls []) := by
    intro n
    induction n with
    | zero => intro wV0 y2 H locs ls h; exact az_non h
    | succ n ih =>
      intro wV0 y2 H locs ls h hP hD hS hl
      rw [FX7_erases_L5_s] at h
      refine lv_iload_n hx hb dX7_erases_5 rfl (lv_at hl 2 rfl) ?_
      refine lv_bipush (v := (16 : Int32)) hx hb dX7_erases_6 (by decide) ?_
      refine lv_iload_n hx hb dX7_erases_8 rfl (lv_at hl 1 rfl) ?_
      refine lv_imul hx hb dX7_erases_9 ?_
      refine lv_aload_n hx hb dX7_erases_10 rfl (lv_at hl 0 rfl) ?_
      refine va_get (D := g.1) (ci := 7) (v := .ref (ad 1)) (C := RX7) (T := TX7) (N := 5) hx hb hts inX7_erases_RX7 hown hK hP 0 rfl rfl 0 (Nat.le_of_ble_eq_true rfl) (hts _ (List.mem_of_getElem? (i := 1) rfl)) (fun _ h9 => h9) rfl dX7_erases_11 ?_
      refine lv_iconst (v := (1 : Int32)) hx hb dX7_erases_14 (by decide) ?_
      refine va_iald (D := g.1) (f := wV0) hx hb hK hP 1 0 rfl rfl (az_vin (by decide +kernel)) dX7_erases_15 ?_
      refine lv_iadd hx hb dX7_erases_16 ?_
      refine lv_icmp_ge (tgt := 33) hx hb dX7_erases_17 (by decide) (fun c17 => ?_) (fun c17 => ?_)
      · replace h := az_pos c17 h
        refine lv_aload_n hx hb dX7_erases_33 rfl (lv_at hl 0 rfl) ?_
        refine lv_iload_n hx hb dX7_erases_34 rfl (lv_at hl 1 rfl) ?_
        refine lv_iconst (v := (0 : Int32)) hx hb dX7_erases_35 (by decide) ?_
        refine lv_iconst (v := (0 : Int32)) hx hb dX7_erases_36 (by decide) ?_
        obtain ⟨o37, hc37, h⟩ := az_bnd h
        refine az_callVv (w2 := az_cM g ad (va_up V 0 o37)) (As := [.int x1, .int (0 : Int32), .int (0 : Int32)]) (rest := []) ⟨hx, hb, hml, hown, hts⟩ hl.1 (kX7_setSegment l g ad (va_up V 0 wV0) x1 (0 : Int32) (0 : Int32) o37 hc37) (cwV 3 hts gX7_erases_X7_setSegment rfl rfl rfl (by decide +kernel) ⟨Nat.le_of_ble_eq_true rfl, Nat.le_of_ble_eq_true rfl⟩) rfl hK hP hD hS hA [0, 1, 2, 3] [] [0, 1, 2, 3] rfl rfl rfl rfl rfl (by decide) rfl rfl rfl 0 rfl rfl rfl (Nat.le_of_ble_eq_true rfl) dX7_erases_37 ⟨Nat.zero_le _, Nat.zero_le _⟩ rfl (fun H locs hP hD hS => ?_)
        refine lv_aload_n hx hb dX7_erases_40 rfl (lv_at hl 0 rfl) ?_
        refine lv_iload_n hx hb dX7_erases_41 rfl (lv_at hl 1 rfl) ?_
        refine lv_iconst (v := (1 : Int32)) hx hb dX7_erases_42 (by decide) ?_
        refine lv_iconst (v := (0 : Int32)) hx hb dX7_erases_43 (by decide) ?_
        obtain ⟨o44, hc44, h⟩ := az_bnd h
        refine az_callVv (w2 := az_cM g ad (va_up V 0 o44)) (As := [.int x1, .int (1 : Int32), .int (0 : Int32)]) (rest := []) ⟨hx, hb, hml, hown, hts⟩ hl.1 (kX7_setSegment l g ad (va_up V 0 o37) x1 (1 : Int32) (0 : Int32) o44 hc44) (cwV 3 hts gX7_erases_X7_setSegment rfl rfl rfl (by decide +kernel) ⟨Nat.le_of_ble_eq_true rfl, Nat.le_of_ble_eq_true rfl⟩) rfl hK hP hD hS hA [0, 1, 2, 3] [] [0, 1, 2, 3] rfl rfl rfl rfl rfl (by decide) rfl rfl rfl 0 rfl rfl rfl (Nat.le_of_ble_eq_true rfl) dX7_erases_44 ⟨Nat.zero_le _, Nat.zero_le _⟩ rfl (fun H locs hP hD hS => ?_)
        refine lv_aload_n hx hb dX7_erases_47 rfl (lv_at hl 0 rfl) ?_
        refine lv_iload_n hx hb dX7_erases_48 rfl (lv_at hl 1 rfl) ?_
        refine lv_iconst (v := (2 : Int32)) hx hb dX7_erases_49 (by decide) ?_
        refine lv_aload_n hx hb dX7_erases_50 rfl (lv_at hl 0 rfl) ?_
        refine lv_iload_n hx hb dX7_erases_51 rfl (lv_at hl 1 rfl) ?_
        refine lv_iconst (v := (2 : Int32)) hx hb dX7_erases_52 (by decide) ?_
        obtain ⟨o53, hc53, h⟩ := az_bnd h
        refine az_callVi (w2 := az_cM g ad (va_up V 0 o44)) (As := [.int x1, .int (2 : Int32)]) (rest := [.int (2 : Int32), .int x1, .ref (ad 0)]) ⟨hx, hb, hml, hown, hts⟩ hl.1 (kX7_ofSegment l g ad (va_up V 0 o44) x1 (2 : Int32) o53 hc53) (cwV 2 hts gX7_erases_X7_ofSegment rfl rfl rfl (by decide +kernel) ⟨Nat.le_of_ble_eq_true rfl, Nat.le_of_ble_eq_true rfl⟩) rfl hK hP hD hS hA [0, 1, 2, 3] [] [0, 1, 2, 3] rfl rfl rfl rfl rfl (by decide) rfl rfl rfl 0 rfl rfl rfl (Nat.le_of_ble_eq_true rfl) dX7_erases_53 ⟨Nat.zero_le _, Nat.zero_le _⟩ rfl (fun H locs hP hD hS => ?_)
        refine lv_iconst (v := (1 : Int32)) hx hb dX7_erases_56 (by decide) ?_
        refine lv_iadd hx hb dX7_erases_57 ?_
        obtain ⟨o58, hc58, h⟩ := az_bnd h
        refine az_callVv (w2 := az_cM g ad (va_up V 0 o58)) (As := [.int x1, .int (2 : Int32), .int (o53 + (1 : Int32))]) (rest := []) ⟨hx, hb, hml, hown, hts⟩ hl.1 (kX7_setSegment l g ad (va_up V 0 o44) x1 (2 : Int32) (o53 + (1 : Int32)) o58 hc58) (cwV 3 hts gX7_erases_X7_setSegment rfl rfl rfl (by decide +kernel) ⟨Nat.le_of_ble_eq_true rfl, Nat.le_of_ble_eq_true rfl⟩) rfl hK hP hD hS hA [0, 1, 2, 3] [] [0, 1, 2, 3] rfl rfl rfl rfl rfl (by decide) rfl rfl rfl 0 rfl rfl rfl (Nat.le_of_ble_eq_true rfl) dX7_erases_58 ⟨Nat.zero_le _, Nat.zero_le _⟩ rfl (fun H locs hP hD hS => ?_)
        have hP : va_P g.1 az_cl (az_cM g ad (va_up V 0 o58)) _ := hP
        have hD : va_D A (az_cM g ad (va_up V 0 o58)) := hD
        rw [← Option.some.inj h]
        exact az_vret hx hb hr hlocks hK hP hD hS dX7_erases_61
      · replace h := az_neg c17 h
        refine lv_aload_n hx hb dX7_erases_20 rfl (lv_at hl 0 rfl) ?_
        refine lv_iload_n hx hb dX7_erases_21 rfl (lv_at hl 2 rfl) ?_
        refine lv_iconst (v := (0 : Int32)) hx hb dX7_erases_22 (by decide) ?_
        refine lv_iconst (v := (0 : Int32)) hx hb dX7_erases_23 (by decide) ?_
        obtain ⟨o24, hc24, h⟩ := az_bnd h
        refine az_callVv (w2 := az_cM g ad (va_up V 0 o24)) (As := [.int y2, .int (0 : Int32), .int (0 : Int32)]) (rest := []) ⟨hx, hb, hml, hown, hts⟩ hl.1 (kX7_setBlock l g ad (va_up V 0 wV0) y2 (0 : Int32) (0 : Int32) o24 hc24) (cwV 3 hts gX7_erases_X7_setBlock rfl rfl rfl (by decide +kernel) ⟨Nat.le_of_ble_eq_true rfl, Nat.le_of_ble_eq_true rfl⟩) rfl hK hP hD hS hA [0, 1, 2, 3] [] [0, 1, 2, 3] rfl rfl rfl rfl rfl (by decide) rfl rfl rfl 0 rfl rfl rfl (Nat.le_of_ble_eq_true rfl) dX7_erases_24 ⟨Nat.zero_le _, Nat.zero_le _⟩ rfl (fun H locs hP hD hS => ?_)
        refine lv_iinc (v := y2 + (1 : Int32)) (lv' := [(2, .int (y2 + (1 : Int32))), (0, .ref (ad 0)), (1, .int x1)]) hx hb dX7_erases_27 hl (k := 2) rfl (rfl) (by decide) rfl (fun ls hl => ?_)
        refine lv_goto (tgt := 5) hx hb dX7_erases_30 (by decide) ?_
        have hP : va_P g.1 az_cl (az_cM g ad (va_up V 0 o24)) _ := hP
        have hD : va_D A (az_cM g ad (va_up V 0 o24)) := hD
        exact ih o24 (y2 + (1 : Int32)) _ _ ls h hP hD hS (lv_sub hl [1, 2, 0] rfl)
  refine lv_bipush (v := (16 : Int32)) hx hb dX7_erases_0 (by decide) ?_
  refine lv_iload_n hx hb dX7_erases_2 rfl (lv_at hl 1 rfl) ?_
  refine lv_imul hx hb dX7_erases_3 ?_
  refine lv_istore_n (lv' := [(2, .int ((16 : Int32) * x1)), (0, .ref (ad 0)), (1, .int x1)]) hx hb dX7_erases_4 rfl hl (by decide) rfl (fun ls hl => ?_)
  have hP : va_P g.1 az_cl (az_cM g ad (va_up V 0 (V 0))) _ := hP
  have hD : va_D A (az_cM g ad (va_up V 0 (V 0))) := hD
  exact hL5 az_fuel (V 0) ((16 : Int32) * x1) _ _ ls h hP hD hS (lv_sub hl [1, 2, 0] rfl)

def FX7_reclaims_L64 : Nat → az_St → (Nat → Int32) → Int32 → Int32 → Option (Int32 × (Nat → Int32))
  | 0, _, _, _, _ => none
  | n + 1, V, wV0, y1, y2 => if wV0 (0 : Int32).toNatClampNeg ≤ y2 then (some (y1, wV0)) else ((FX7_ofSegment (va_up V 0 wV0) y2 (0 : Int32)).bind (fun o77 => if o77 = (2 : Int32) then ((FX7_inState (va_up V 0 wV0) y2 (4 : Int32)).bind (fun o87 => if o87 = wV0 (1 : Int32).toNatClampNeg then ((FX7_erases (va_up V 0 wV0) y2).bind (fun o101 => FX7_reclaims_L64 n V o101 y1 (y2 + (1 : Int32)))) else (FX7_reclaims_L64 n V wV0 y1 (y2 + (1 : Int32))))) else (FX7_reclaims_L64 n V wV0 y1 (y2 + (1 : Int32)))))
theorem FX7_reclaims_L64_s (n : Nat) (V : az_St) (wV0 : Nat → Int32) (y1 : Int32) (y2 : Int32) : FX7_reclaims_L64 (n + 1) V wV0 y1 y2 = (if wV0 (0 : Int32).toNatClampNeg ≤ y2 then (some (y1, wV0)) else ((FX7_ofSegment (va_up V 0 wV0) y2 (0 : Int32)).bind (fun o77 => if o77 = (2 : Int32) then ((FX7_inState (va_up V 0 wV0) y2 (4 : Int32)).bind (fun o87 => if o87 = wV0 (1 : Int32).toNatClampNeg then ((FX7_erases (va_up V 0 wV0) y2).bind (fun o101 => FX7_reclaims_L64 n V o101 y1 (y2 + (1 : Int32)))) else (FX7_reclaims_L64 n V wV0 y1 (y2 + (1 : Int32))))) else (FX7_reclaims_L64 n V wV0 y1 (y2 + (1 : Int32)))))) := rfl
def FX7_reclaims_L4 : Nat → az_St → (Nat → Int32) → Int32 → Int32 → Option (Int32 × (Nat → Int32))
  | 0, _, _, _, _ => none
  | n + 1, V, wV0, y1, y2 => if (16 : Int32) * (wV0 (0 : Int32).toNatClampNeg) ≤ y2 then (FX7_reclaims_L64 az_fuel V wV0 y1 (0 : Int32)) else ((FX7_isBlock (va_up V 0 wV0) y2).bind (fun o19 => if o19 = (0 : Int32) then (FX7_reclaims_L4 n V wV0 y1 (y2 + (1 : Int32))) else ((FX7_ofBlock (va_up V 0 wV0) y2 (0 : Int32)).bind (fun o28 => if o28 = (3 : Int32) then ((FX7_advancesFor (va_up V 0 wV0) y2).bind (fun o37 => if o37 ≤ (0 : Int32) then ((FX7_setBlock (va_up V 0 wV0) y2 (0 : Int32) (4 : Int32)).bind (fun o50 => FX7_reclaims_L4 n V o50 (y1 + (1 : Int32)) (y2 + (1 : Int32)))) else (FX7_reclaims_L4 n V wV0 y1 (y2 + (1 : Int32))))) else (FX7_reclaims_L4 n V wV0 y1 (y2 + (1 : Int32)))))))
theorem FX7_reclaims_L4_s (n : Nat) (V : az_St) (wV0 : Nat → Int32) (y1 : Int32) (y2 : Int32) : FX7_reclaims_L4 (n + 1) V wV0 y1 y2 = (if (16 : Int32) * (wV0 (0 : Int32).toNatClampNeg) ≤ y2 then (FX7_reclaims_L64 az_fuel V wV0 y1 (0 : Int32)) else ((FX7_isBlock (va_up V 0 wV0) y2).bind (fun o19 => if o19 = (0 : Int32) then (FX7_reclaims_L4 n V wV0 y1 (y2 + (1 : Int32))) else ((FX7_ofBlock (va_up V 0 wV0) y2 (0 : Int32)).bind (fun o28 => if o28 = (3 : Int32) then ((FX7_advancesFor (va_up V 0 wV0) y2).bind (fun o37 => if o37 ≤ (0 : Int32) then ((FX7_setBlock (va_up V 0 wV0) y2 (0 : Int32) (4 : Int32)).bind (fun o50 => FX7_reclaims_L4 n V o50 (y1 + (1 : Int32)) (y2 + (1 : Int32)))) else (FX7_reclaims_L4 n V wV0 y1 (y2 + (1 : Int32))))) else (FX7_reclaims_L4 n V wV0 y1 (y2 + (1 : Int32)))))))) := rfl
def FX7_reclaims (V : az_St) : Option (Int32 × (Nat → Int32)) := FX7_reclaims_L4 az_fuel V (V 0) (0 : Int32) (0 : Int32)
theorem inX7_reclaims_RX7 : ∀ w ∈ wsX70, w ∈ wsX7_reclaims := az_inr [42, 43, 44, 45, 46] (by decide +kernel)
set_option maxHeartbeats 4000000 in
set_option maxRecDepth 100000 in
theorem kX7_reclaims (l : Launch) (g : az_G) (ad : Nat → Nat) (V : az_St) (o : Int32 × (Nat → Int32)) (h : FX7_reclaims V = some o) : az_I l yX7_reclaims wsX7_reclaims ({ frames := 3, cells := 0, slots := 0, locals := 67 } : Room) [.ref (ad 0)] g (az_cM g ad V) o.1 (az_cM g ad (va_up V 0 o.2)) := by
  refine az_body (cc := cX7_reclaims) (maxL := 3) (ret := (some .int)) (Qc := fun A => az_QI g (az_cM g ad (va_up V 0 o.2)) o.1 A) (by decide +kernel) rfl (Nat.le_of_ble_eq_true rfl) ?_
  intro p e s m args below meth c A hx hb hr hts hown hml hlocks hA hK hP hD hS ls hl
  have hl : lv_has ls 3 [(0, .ref (ad 0))] := hl
  unfold FX7_reclaims at h
  have hL64 : ∀ (n : Nat) (wV0 : Nat → Int32) (y1 : Int32) (y2 : Int32) (H : Heap) (locs : List Loc) (ls : Array Slot), FX7_reclaims_L64 n V wV0 y1 y2 = some o → va_P g.1 az_cl (az_cM g ad (va_up V 0 wV0)) H → va_D A (az_cM g ad (va_up V 0 wV0)) → va_S A s.heap H locs → lv_has ls 3 [(0, .ref (ad 0)), (1, .int y1), (2, .int y2)] → W p l e ({ frames := 3, cells := 0, slots := 0, locals := 67 } : Room) s m args below meth c H locs 0 0 (MQ below (az_QI g (az_cM g ad (va_up V 0 o.2)) o.1 A) args s 0 0 A) (F0 m 64 ls []) := by
    intro n
    induction n with
    | zero => intro wV0 y1 y2 H locs ls h; exact az_non h
    | succ n ih =>
      intro wV0 y1 y2 H locs ls h hP hD hS hl
      rw [FX7_reclaims_L64_s] at h
      refine lv_iload_n hx hb dX7_reclaims_64 rfl (lv_at hl 2 rfl) ?_
      refine lv_aload_n hx hb dX7_reclaims_65 rfl (lv_at hl 0 rfl) ?_
      refine va_get (D := g.1) (ci := 7) (v := .ref (ad 1)) (C := RX7) (T := TX7) (N := 5) hx hb hts inX7_reclaims_RX7 hown hK hP 0 rfl rfl 0 (Nat.le_of_ble_eq_true rfl) (hts _ (List.mem_of_getElem? (i := 1) rfl)) (fun _ h9 => h9) rfl dX7_reclaims_66 ?_
      refine lv_iconst (v := (0 : Int32)) hx hb dX7_reclaims_69 (by decide) ?_
      refine va_iald (D := g.1) (f := wV0) hx hb hK hP 1 0 rfl rfl (az_vin (by decide +kernel)) dX7_reclaims_70 ?_
      refine lv_icmp_ge (tgt := 110) hx hb dX7_reclaims_71 (by decide) (fun c71 => ?_) (fun c71 => ?_)
      · replace h := az_pos c71 h
        refine lv_iload_n hx hb dX7_reclaims_110 rfl (lv_at hl 1 rfl) ?_
        have hP : va_P g.1 az_cl (az_cM g ad (va_up V 0 wV0)) _ := hP
        have hD : va_D A (az_cM g ad (va_up V 0 wV0)) := hD
        rw [← Option.some.inj h]
        exact az_iret hx hb hr hlocks hK hP hD hS dX7_reclaims_111
      · replace h := az_neg c71 h
        refine lv_aload_n hx hb dX7_reclaims_74 rfl (lv_at hl 0 rfl) ?_
        refine lv_iload_n hx hb dX7_reclaims_75 rfl (lv_at hl 2 rfl) ?_
        refine lv_iconst (v := (0 : Int32)) hx hb dX7_reclaims_76 (by decide) ?_
        obtain ⟨o77, hc77, h⟩ := az_bnd h
        refine az_callVi (w2 := az_cM g ad (va_up V 0 wV0)) (As := [.int y2, .int (0 : Int32)]) (rest := []) ⟨hx, hb, hml, hown, hts⟩ hl.1 (kX7_ofSegment l g ad (va_up V 0 wV0) y2 (0 : Int32) o77 hc77) (cwV 2 hts gX7_reclaims_X7_ofSegment rfl rfl rfl (by decide +kernel) ⟨Nat.le_of_ble_eq_true rfl, Nat.le_of_ble_eq_true rfl⟩) rfl hK hP hD hS hA [0, 1, 2, 3] [] [0, 1, 2, 3] rfl rfl rfl rfl rfl (by decide) rfl rfl rfl 0 rfl rfl rfl (Nat.le_of_ble_eq_true rfl) dX7_reclaims_77 ⟨Nat.zero_le _, Nat.zero_le _⟩ rfl (fun H locs hP hD hS => ?_)
        refine lv_iconst (v := (2 : Int32)) hx hb dX7_reclaims_80 (by decide) ?_
        refine lv_icmp_ne (tgt := 104) hx hb dX7_reclaims_81 (by decide) (fun c81 => ?_) (fun c81 => ?_)
        · replace h := az_neg c81 h
          refine lv_iinc (v := y2 + (1 : Int32)) (lv' := [(2, .int (y2 + (1 : Int32))), (0, .ref (ad 0)), (1, .int y1)]) hx hb dX7_reclaims_104 hl (k := 2) rfl (rfl) (by decide) rfl (fun ls hl => ?_)
          refine lv_goto (tgt := 64) hx hb dX7_reclaims_107 (by decide) ?_
          have hP : va_P g.1 az_cl (az_cM g ad (va_up V 0 wV0)) _ := hP
          have hD : va_D A (az_cM g ad (va_up V 0 wV0)) := hD
          exact ih wV0 y1 (y2 + (1 : Int32)) _ _ ls h hP hD hS (lv_sub hl [1, 2, 0] rfl)
        · replace h := az_pos c81 h
          refine lv_aload_n hx hb dX7_reclaims_84 rfl (lv_at hl 0 rfl) ?_
          refine lv_iload_n hx hb dX7_reclaims_85 rfl (lv_at hl 2 rfl) ?_
          refine lv_iconst (v := (4 : Int32)) hx hb dX7_reclaims_86 (by decide) ?_
          obtain ⟨o87, hc87, h⟩ := az_bnd h
          refine az_callVi (w2 := az_cM g ad (va_up V 0 wV0)) (As := [.int y2, .int (4 : Int32)]) (rest := []) ⟨hx, hb, hml, hown, hts⟩ hl.1 (kX7_inState l g ad (va_up V 0 wV0) y2 (4 : Int32) o87 hc87) (cwV 2 hts gX7_reclaims_X7_inState rfl rfl rfl (by decide +kernel) ⟨Nat.le_of_ble_eq_true rfl, Nat.le_of_ble_eq_true rfl⟩) rfl hK hP hD hS hA [0, 1, 2, 3] [] [0, 1, 2, 3] rfl rfl rfl rfl rfl (by decide) rfl rfl rfl 0 rfl rfl rfl (Nat.le_of_ble_eq_true rfl) dX7_reclaims_87 ⟨Nat.zero_le _, Nat.zero_le _⟩ rfl (fun H locs hP hD hS => ?_)
          refine lv_aload_n hx hb dX7_reclaims_90 rfl (lv_at hl 0 rfl) ?_
          refine va_get (D := g.1) (ci := 7) (v := .ref (ad 1)) (C := RX7) (T := TX7) (N := 5) hx hb hts inX7_reclaims_RX7 hown hK hP 0 rfl rfl 0 (Nat.le_of_ble_eq_true rfl) (hts _ (List.mem_of_getElem? (i := 1) rfl)) (fun _ h9 => h9) rfl dX7_reclaims_91 ?_
          refine lv_iconst (v := (1 : Int32)) hx hb dX7_reclaims_94 (by decide) ?_
          refine va_iald (D := g.1) (f := wV0) hx hb hK hP 1 0 rfl rfl (az_vin (by decide +kernel)) dX7_reclaims_95 ?_
          refine lv_icmp_ne (tgt := 104) hx hb dX7_reclaims_96 (by decide) (fun c96 => ?_) (fun c96 => ?_)
          · replace h := az_neg c96 h
            refine lv_iinc (v := y2 + (1 : Int32)) (lv' := [(2, .int (y2 + (1 : Int32))), (0, .ref (ad 0)), (1, .int y1)]) hx hb dX7_reclaims_104 hl (k := 2) rfl (rfl) (by decide) rfl (fun ls hl => ?_)
            refine lv_goto (tgt := 64) hx hb dX7_reclaims_107 (by decide) ?_
            have hP : va_P g.1 az_cl (az_cM g ad (va_up V 0 wV0)) _ := hP
            have hD : va_D A (az_cM g ad (va_up V 0 wV0)) := hD
            exact ih wV0 y1 (y2 + (1 : Int32)) _ _ ls h hP hD hS (lv_sub hl [1, 2, 0] rfl)
          · replace h := az_pos c96 h
            refine lv_aload_n hx hb dX7_reclaims_99 rfl (lv_at hl 0 rfl) ?_
            refine lv_iload_n hx hb dX7_reclaims_100 rfl (lv_at hl 2 rfl) ?_
            obtain ⟨o101, hc101, h⟩ := az_bnd h
            refine az_callVv (w2 := az_cM g ad (va_up V 0 o101)) (As := [.int y2]) (rest := []) ⟨hx, hb, hml, hown, hts⟩ hl.1 (kX7_erases l g ad (va_up V 0 wV0) y2 o101 hc101) (cwV 1 hts gX7_reclaims_X7_erases rfl rfl rfl (by decide +kernel) ⟨Nat.le_of_ble_eq_true rfl, Nat.le_of_ble_eq_true rfl⟩) rfl hK hP hD hS hA [0, 1, 2, 3] [] [0, 1, 2, 3] rfl rfl rfl rfl rfl (by decide) rfl rfl rfl 0 rfl rfl rfl (Nat.le_of_ble_eq_true rfl) dX7_reclaims_101 ⟨Nat.zero_le _, Nat.zero_le _⟩ rfl (fun H locs hP hD hS => ?_)
            refine lv_iinc (v := y2 + (1 : Int32)) (lv' := [(2, .int (y2 + (1 : Int32))), (0, .ref (ad 0)), (1, .int y1)]) hx hb dX7_reclaims_104 hl (k := 2) rfl (rfl) (by decide) rfl (fun ls hl => ?_)
            refine lv_goto (tgt := 64) hx hb dX7_reclaims_107 (by decide) ?_
            have hP : va_P g.1 az_cl (az_cM g ad (va_up V 0 o101)) _ := hP
            have hD : va_D A (az_cM g ad (va_up V 0 o101)) := hD
            exact ih o101 y1 (y2 + (1 : Int32)) _ _ ls h hP hD hS (lv_sub hl [1, 2, 0] rfl)
  have hL4 : ∀ (n : Nat) (wV0 : Nat → Int32) (y1 : Int32) (y2 : Int32) (H : Heap) (locs : List Loc) (ls : Array Slot), FX7_reclaims_L4 n V wV0 y1 y2 = some o → va_P g.1 az_cl (az_cM g ad (va_up V 0 wV0)) H → va_D A (az_cM g ad (va_up V 0 wV0)) → va_S A s.heap H locs → lv_has ls 3 [(0, .ref (ad 0)), (1, .int y1), (2, .int y2)] → W p l e ({ frames := 3, cells := 0, slots := 0, locals := 67 } : Room) s m args below meth c H locs 0 0 (MQ below (az_QI g (az_cM g ad (va_up V 0 o.2)) o.1 A) args s 0 0 A) (F0 m 4 ls []) := by
    intro n
    induction n with
    | zero => intro wV0 y1 y2 H locs ls h; exact az_non h
    | succ n ih =>
      intro wV0 y1 y2 H locs ls h hP hD hS hl
      rw [FX7_reclaims_L4_s] at h
      refine lv_iload_n hx hb dX7_reclaims_4 rfl (lv_at hl 2 rfl) ?_
      refine lv_bipush (v := (16 : Int32)) hx hb dX7_reclaims_5 (by decide) ?_
      refine lv_aload_n hx hb dX7_reclaims_7 rfl (lv_at hl 0 rfl) ?_
      refine va_get (D := g.1) (ci := 7) (v := .ref (ad 1)) (C := RX7) (T := TX7) (N := 5) hx hb hts inX7_reclaims_RX7 hown hK hP 0 rfl rfl 0 (Nat.le_of_ble_eq_true rfl) (hts _ (List.mem_of_getElem? (i := 1) rfl)) (fun _ h9 => h9) rfl dX7_reclaims_8 ?_
      refine lv_iconst (v := (0 : Int32)) hx hb dX7_reclaims_11 (by decide) ?_
      refine va_iald (D := g.1) (f := wV0) hx hb hK hP 1 0 rfl rfl (az_vin (by decide +kernel)) dX7_reclaims_12 ?_
      refine lv_imul hx hb dX7_reclaims_13 ?_
      refine lv_icmp_ge (tgt := 62) hx hb dX7_reclaims_14 (by decide) (fun c14 => ?_) (fun c14 => ?_)
      · replace h := az_pos c14 h
        refine lv_iconst (v := (0 : Int32)) hx hb dX7_reclaims_62 (by decide) ?_
        refine lv_istore_n (lv' := [(2, .int (0 : Int32)), (0, .ref (ad 0)), (1, .int y1)]) hx hb dX7_reclaims_63 rfl hl (by decide) rfl (fun ls hl => ?_)
        have hP : va_P g.1 az_cl (az_cM g ad (va_up V 0 wV0)) _ := hP
        have hD : va_D A (az_cM g ad (va_up V 0 wV0)) := hD
        exact hL64 az_fuel wV0 y1 (0 : Int32) _ _ ls h hP hD hS (lv_sub hl [1, 2, 0] rfl)
      · replace h := az_neg c14 h
        refine lv_aload_n hx hb dX7_reclaims_17 rfl (lv_at hl 0 rfl) ?_
        refine lv_iload_n hx hb dX7_reclaims_18 rfl (lv_at hl 2 rfl) ?_
        obtain ⟨o19, hc19, h⟩ := az_bnd h
        refine az_callVi (w2 := az_cM g ad (va_up V 0 wV0)) (As := [.int y2]) (rest := []) ⟨hx, hb, hml, hown, hts⟩ hl.1 (kX7_isBlock l g ad (va_up V 0 wV0) y2 o19 hc19) (cwV 1 hts gX7_reclaims_X7_isBlock rfl rfl rfl (by decide +kernel) ⟨Nat.le_of_ble_eq_true rfl, Nat.le_of_ble_eq_true rfl⟩) rfl hK hP hD hS hA [0, 1, 2, 3] [] [0, 1, 2, 3] rfl rfl rfl rfl rfl (by decide) rfl rfl rfl 0 rfl rfl rfl (Nat.le_of_ble_eq_true rfl) dX7_reclaims_19 ⟨Nat.zero_le _, Nat.zero_le _⟩ rfl (fun H locs hP hD hS => ?_)
        refine lv_if_eq (tgt := 56) hx hb dX7_reclaims_22 (by decide) (fun c22 => ?_) (fun c22 => ?_)
        · replace h := az_pos c22 h
          refine lv_iinc (v := y2 + (1 : Int32)) (lv' := [(2, .int (y2 + (1 : Int32))), (0, .ref (ad 0)), (1, .int y1)]) hx hb dX7_reclaims_56 hl (k := 2) rfl (rfl) (by decide) rfl (fun ls hl => ?_)
          refine lv_goto (tgt := 4) hx hb dX7_reclaims_59 (by decide) ?_
          have hP : va_P g.1 az_cl (az_cM g ad (va_up V 0 wV0)) _ := hP
          have hD : va_D A (az_cM g ad (va_up V 0 wV0)) := hD
          exact ih wV0 y1 (y2 + (1 : Int32)) _ _ ls h hP hD hS (lv_sub hl [1, 2, 0] rfl)
        · replace h := az_neg c22 h
          refine lv_aload_n hx hb dX7_reclaims_25 rfl (lv_at hl 0 rfl) ?_
          refine lv_iload_n hx hb dX7_reclaims_26 rfl (lv_at hl 2 rfl) ?_
          refine lv_iconst (v := (0 : Int32)) hx hb dX7_reclaims_27 (by decide) ?_
          obtain ⟨o28, hc28, h⟩ := az_bnd h
          refine az_callVi (w2 := az_cM g ad (va_up V 0 wV0)) (As := [.int y2, .int (0 : Int32)]) (rest := []) ⟨hx, hb, hml, hown, hts⟩ hl.1 (kX7_ofBlock l g ad (va_up V 0 wV0) y2 (0 : Int32) o28 hc28) (cwV 2 hts gX7_reclaims_X7_ofBlock rfl rfl rfl (by decide +kernel) ⟨Nat.le_of_ble_eq_true rfl, Nat.le_of_ble_eq_true rfl⟩) rfl hK hP hD hS hA [0, 1, 2, 3] [] [0, 1, 2, 3] rfl rfl rfl rfl rfl (by decide) rfl rfl rfl 0 rfl rfl rfl (Nat.le_of_ble_eq_true rfl) dX7_reclaims_28 ⟨Nat.zero_le _, Nat.zero_le _⟩ rfl (fun H locs hP hD hS => ?_)
          refine lv_iconst (v := (3 : Int32)) hx hb dX7_reclaims_31 (by decide) ?_
          refine lv_icmp_ne (tgt := 56) hx hb dX7_reclaims_32 (by decide) (fun c32 => ?_) (fun c32 => ?_)
          · replace h := az_neg c32 h
            refine lv_iinc (v := y2 + (1 : Int32)) (lv' := [(2, .int (y2 + (1 : Int32))), (0, .ref (ad 0)), (1, .int y1)]) hx hb dX7_reclaims_56 hl (k := 2) rfl (rfl) (by decide) rfl (fun ls hl => ?_)
            refine lv_goto (tgt := 4) hx hb dX7_reclaims_59 (by decide) ?_
            have hP : va_P g.1 az_cl (az_cM g ad (va_up V 0 wV0)) _ := hP
            have hD : va_D A (az_cM g ad (va_up V 0 wV0)) := hD
            exact ih wV0 y1 (y2 + (1 : Int32)) _ _ ls h hP hD hS (lv_sub hl [1, 2, 0] rfl)
          · replace h := az_pos c32 h
            refine lv_aload_n hx hb dX7_reclaims_35 rfl (lv_at hl 0 rfl) ?_
            refine lv_iload_n hx hb dX7_reclaims_36 rfl (lv_at hl 2 rfl) ?_
            obtain ⟨o37, hc37, h⟩ := az_bnd h
            refine az_callVi (w2 := az_cM g ad (va_up V 0 wV0)) (As := [.int y2]) (rest := []) ⟨hx, hb, hml, hown, hts⟩ hl.1 (kX7_advancesFor l g ad (va_up V 0 wV0) y2 o37 hc37) (cwV 1 hts gX7_reclaims_X7_advancesFor rfl rfl rfl (by decide +kernel) ⟨Nat.le_of_ble_eq_true rfl, Nat.le_of_ble_eq_true rfl⟩) rfl hK hP hD hS hA [0, 1, 2, 3] [] [0, 1, 2, 3] rfl rfl rfl rfl rfl (by decide) rfl rfl rfl 0 rfl rfl rfl (Nat.le_of_ble_eq_true rfl) dX7_reclaims_37 ⟨Nat.zero_le _, Nat.zero_le _⟩ rfl (fun H locs hP hD hS => ?_)
            refine lv_if_le (tgt := 46) hx hb dX7_reclaims_40 (by decide) (fun c40 => ?_) (fun c40 => ?_)
            · replace h := az_pos c40 h
              refine lv_aload_n hx hb dX7_reclaims_46 rfl (lv_at hl 0 rfl) ?_
              refine lv_iload_n hx hb dX7_reclaims_47 rfl (lv_at hl 2 rfl) ?_
              refine lv_iconst (v := (0 : Int32)) hx hb dX7_reclaims_48 (by decide) ?_
              refine lv_iconst (v := (4 : Int32)) hx hb dX7_reclaims_49 (by decide) ?_
              obtain ⟨o50, hc50, h⟩ := az_bnd h
              refine az_callVv (w2 := az_cM g ad (va_up V 0 o50)) (As := [.int y2, .int (0 : Int32), .int (4 : Int32)]) (rest := []) ⟨hx, hb, hml, hown, hts⟩ hl.1 (kX7_setBlock l g ad (va_up V 0 wV0) y2 (0 : Int32) (4 : Int32) o50 hc50) (cwV 3 hts gX7_reclaims_X7_setBlock rfl rfl rfl (by decide +kernel) ⟨Nat.le_of_ble_eq_true rfl, Nat.le_of_ble_eq_true rfl⟩) rfl hK hP hD hS hA [0, 1, 2, 3] [] [0, 1, 2, 3] rfl rfl rfl rfl rfl (by decide) rfl rfl rfl 0 rfl rfl rfl (Nat.le_of_ble_eq_true rfl) dX7_reclaims_50 ⟨Nat.zero_le _, Nat.zero_le _⟩ rfl (fun H locs hP hD hS => ?_)
              refine lv_iinc (v := y1 + (1 : Int32)) (lv' := [(1, .int (y1 + (1 : Int32))), (0, .ref (ad 0)), (2, .int y2)]) hx hb dX7_reclaims_53 hl (k := 1) rfl (rfl) (by decide) rfl (fun ls hl => ?_)
              refine lv_iinc (v := y2 + (1 : Int32)) (lv' := [(2, .int (y2 + (1 : Int32))), (1, .int (y1 + (1 : Int32))), (0, .ref (ad 0))]) hx hb dX7_reclaims_56 hl (k := 2) rfl (rfl) (by decide) rfl (fun ls hl => ?_)
              refine lv_goto (tgt := 4) hx hb dX7_reclaims_59 (by decide) ?_
              have hP : va_P g.1 az_cl (az_cM g ad (va_up V 0 o50)) _ := hP
              have hD : va_D A (az_cM g ad (va_up V 0 o50)) := hD
              exact ih o50 (y1 + (1 : Int32)) (y2 + (1 : Int32)) _ _ ls h hP hD hS (lv_sub hl [2, 1, 0] rfl)
            · replace h := az_neg c40 h
              refine lv_goto (tgt := 56) hx hb dX7_reclaims_43 (by decide) ?_
              refine lv_iinc (v := y2 + (1 : Int32)) (lv' := [(2, .int (y2 + (1 : Int32))), (0, .ref (ad 0)), (1, .int y1)]) hx hb dX7_reclaims_56 hl (k := 2) rfl (rfl) (by decide) rfl (fun ls hl => ?_)
              refine lv_goto (tgt := 4) hx hb dX7_reclaims_59 (by decide) ?_
              have hP : va_P g.1 az_cl (az_cM g ad (va_up V 0 wV0)) _ := hP
              have hD : va_D A (az_cM g ad (va_up V 0 wV0)) := hD
              exact ih wV0 y1 (y2 + (1 : Int32)) _ _ ls h hP hD hS (lv_sub hl [1, 2, 0] rfl)
  refine lv_iconst (v := (0 : Int32)) hx hb dX7_reclaims_0 (by decide) ?_
  refine lv_istore_n (lv' := [(1, .int (0 : Int32)), (0, .ref (ad 0))]) hx hb dX7_reclaims_1 rfl hl (by decide) rfl (fun ls hl => ?_)
  refine lv_iconst (v := (0 : Int32)) hx hb dX7_reclaims_2 (by decide) ?_
  refine lv_istore_n (lv' := [(2, .int (0 : Int32)), (1, .int (0 : Int32)), (0, .ref (ad 0))]) hx hb dX7_reclaims_3 rfl hl (by decide) rfl (fun ls hl => ?_)
  have hP : va_P g.1 az_cl (az_cM g ad (va_up V 0 (V 0))) _ := hP
  have hD : va_D A (az_cM g ad (va_up V 0 (V 0))) := hD
  exact hL4 az_fuel (V 0) (0 : Int32) (0 : Int32) _ _ ls h hP hD hS (lv_sub hl [2, 1, 0] rfl)

def FX7_reclaim (V : az_St) : Option (Int32 × (Nat → Int32) × (Nat → Int32) × (Nat → Int32)) := az_lt (upd (V 2) 1 (0 : Int32)) (fun u2 => (FX7_keeps (va_up V 2 u2)).bind (fun o6 => (FX7_reclaims (va_up (va_up V 1 o6.1) 2 o6.2)).bind (fun o10 => some (o10.1, o10.2, o6.1, o6.2))))
theorem inX7_reclaim_RX7 : ∀ w ∈ wsX70, w ∈ wsX7_reclaim := az_inr [53, 54, 55, 56, 57] (by decide +kernel)
set_option maxHeartbeats 4000000 in
set_option maxRecDepth 100000 in
theorem kX7_reclaim (l : Launch) (g : az_G) (ad : Nat → Nat) (V : az_St) (o : Int32 × (Nat → Int32) × (Nat → Int32) × (Nat → Int32)) (h : FX7_reclaim V = some o) : az_I l yX7_reclaim wsX7_reclaim ({ frames := 4, cells := 0, slots := 0, locals := 89 } : Room) [.ref (ad 0)] g (az_cM g ad V) o.1 (az_cM g ad (va_up (va_up (va_up V 0 o.2.1) 1 o.2.2.1) 2 o.2.2.2)) := by
  refine az_body (cc := cX7_reclaim) (maxL := 1) (ret := (some .int)) (Qc := fun A => az_QI g (az_cM g ad (va_up (va_up (va_up V 0 o.2.1) 1 o.2.2.1) 2 o.2.2.2)) o.1 A) (by decide +kernel) rfl (Nat.le_of_ble_eq_true rfl) ?_
  intro p e s m args below meth c A hx hb hr hts hown hml hlocks hA hK hP hD hS ls hl
  have hl : lv_has ls 1 [(0, .ref (ad 0))] := hl
  unfold FX7_reclaim at h
  refine lv_aload_n hx hb dX7_reclaim_0 rfl (lv_at hl 0 rfl) ?_
  refine lv_iconst (v := (0 : Int32)) hx hb dX7_reclaim_1 (by decide) ?_
  refine va_put (D := g.1) (ci := 7) (v := .int (0 : Int32)) (ty := .int) (C := RX7) (T := TX7) (N := 5) hx hb hts inX7_reclaim_RX7 tyX7 tyX7_ok nmX7 hown hK hP hD hS 0 rfl rfl 3 (Nat.le_of_ble_eq_true rfl) (hts _ (List.mem_of_getElem? (i := 1) rfl)) (fun _ h9 => h9) rfl (by decide +kernel) rfl rfl (Nat.le_of_ble_eq_true rfl) dX7_reclaim_2 (fun H locs hP hD hS => ?_)
  obtain ⟨u2, e2⟩ : ∃ w : Nat → Int32, w = upd (V 2) 1 (0 : Int32) := ⟨_, rfl⟩
  have hP : va_P g.1 az_cl (az_cM g ad (va_up V 2 u2)) H := by rw [e2]; exact hP
  have hD : va_D A (az_cM g ad (va_up V 2 u2)) := by rw [e2]; exact hD
  replace h := az_let e2 h
  refine lv_aload_n hx hb dX7_reclaim_5 rfl (lv_at hl 0 rfl) ?_
  obtain ⟨o6, hc6, h⟩ := az_bnd h
  refine az_callVv (w2 := az_cM g ad (va_up (va_up V 1 o6.1) 2 o6.2)) (As := []) (rest := []) ⟨hx, hb, hml, hown, hts⟩ hl.1 (kX7_keeps l g ad (va_up V 2 u2) o6 hc6) (cwV 0 hts gX7_reclaim_X7_keeps rfl rfl rfl (by decide +kernel) ⟨Nat.le_of_ble_eq_true rfl, Nat.le_of_ble_eq_true rfl⟩) rfl hK hP hD hS hA [0, 1, 2, 3] [] [0, 1, 2, 3] rfl rfl rfl rfl rfl (by decide) rfl rfl rfl 0 rfl rfl rfl (Nat.le_of_ble_eq_true rfl) dX7_reclaim_6 ⟨Nat.zero_le _, Nat.zero_le _⟩ rfl (fun H locs hP hD hS => ?_)
  refine lv_aload_n hx hb dX7_reclaim_9 rfl (lv_at hl 0 rfl) ?_
  obtain ⟨o10, hc10, h⟩ := az_bnd h
  refine az_callVi (w2 := az_cM g ad (va_up (va_up (va_up V 0 o10.2) 1 o6.1) 2 o6.2)) (As := []) (rest := []) ⟨hx, hb, hml, hown, hts⟩ hl.1 (kX7_reclaims l g ad (va_up (va_up V 1 o6.1) 2 o6.2) o10 hc10) (cwV 0 hts gX7_reclaim_X7_reclaims rfl rfl rfl (by decide +kernel) ⟨Nat.le_of_ble_eq_true rfl, Nat.le_of_ble_eq_true rfl⟩) rfl hK hP hD hS hA [0, 1, 2, 3] [] [0, 1, 2, 3] rfl rfl rfl rfl rfl (by decide) rfl rfl rfl 0 rfl rfl rfl (Nat.le_of_ble_eq_true rfl) dX7_reclaim_10 ⟨Nat.zero_le _, Nat.zero_le _⟩ rfl (fun H locs hP hD hS => ?_)
  have hP : va_P g.1 az_cl (az_cM g ad (va_up (va_up (va_up V 0 o10.2) 1 o6.1) 2 o6.2)) _ := hP
  have hD : va_D A (az_cM g ad (va_up (va_up (va_up V 0 o10.2) 1 o6.1) 2 o6.2)) := hD
  rw [← Option.some.inj h]
  exact az_iret hx hb hr hlocks hK hP hD hS dX7_reclaim_13

def FX7_isGone_L30 : Nat → az_St → Int32 → Int32 → Int32 → Int32 → Option (Int32)
  | 0, _, _, _, _, _ => none
  | n + 1, V, x1, x2, y3, y4 => if ((16 : Int32) * x1) + ((V 0) (1 : Int32).toNatClampNeg) ≤ y4 then (if az_01 y3 = true then some (y3) else none) else (if y3 = (0 : Int32) then (if az_01 y3 = true then some (y3) else none) else ((FX7_ofBlock V y4 (0 : Int32)).bind (fun o54 => if o54 = (4 : Int32) then (FX7_isGone_L30 n V x1 x2 (1 : Int32) (y4 + (1 : Int32))) else ((FX7_advancesFor V y4).bind (fun o64 => if x2 < o64 then (FX7_isGone_L30 n V x1 x2 (0 : Int32) (y4 + (1 : Int32))) else (FX7_isGone_L30 n V x1 x2 (1 : Int32) (y4 + (1 : Int32))))))))
theorem FX7_isGone_L30_s (n : Nat) (V : az_St) (x1 : Int32) (x2 : Int32) (y3 : Int32) (y4 : Int32) : FX7_isGone_L30 (n + 1) V x1 x2 y3 y4 = (if ((16 : Int32) * x1) + ((V 0) (1 : Int32).toNatClampNeg) ≤ y4 then (if az_01 y3 = true then some (y3) else none) else (if y3 = (0 : Int32) then (if az_01 y3 = true then some (y3) else none) else ((FX7_ofBlock V y4 (0 : Int32)).bind (fun o54 => if o54 = (4 : Int32) then (FX7_isGone_L30 n V x1 x2 (1 : Int32) (y4 + (1 : Int32))) else ((FX7_advancesFor V y4).bind (fun o64 => if x2 < o64 then (FX7_isGone_L30 n V x1 x2 (0 : Int32) (y4 + (1 : Int32))) else (FX7_isGone_L30 n V x1 x2 (1 : Int32) (y4 + (1 : Int32))))))))) := rfl
def FX7_isGone (V : az_St) (x1 : Int32) (x2 : Int32) : Option (Int32) := (FX7_ofSegment V x1 (0 : Int32)).bind (fun o3 => if o3 = (2 : Int32) then ((FX7_useOf V x1).bind (fun o12 => if o12 = (0 : Int32) then (FX7_isGone_L30 az_fuel V x1 x2 (1 : Int32) ((16 : Int32) * x1)) else (FX7_isGone_L30 az_fuel V x1 x2 (0 : Int32) ((16 : Int32) * x1)))) else (FX7_isGone_L30 az_fuel V x1 x2 (0 : Int32) ((16 : Int32) * x1)))
theorem inX7_isGone_RX7 : ∀ w ∈ wsX70, w ∈ wsX7_isGone := az_inr [23, 24, 25, 26, 27] (by decide +kernel)
set_option maxHeartbeats 4000000 in
set_option maxRecDepth 100000 in
theorem kX7_isGone (l : Launch) (g : az_G) (ad : Nat → Nat) (V : az_St) (x1 : Int32) (x2 : Int32) (o : Int32) (h : FX7_isGone V x1 x2 = some o) : az_I l yX7_isGone wsX7_isGone ({ frames := 3, cells := 0, slots := 0, locals := 67 } : Room) [.ref (ad 0), .int x1, .int x2] g (az_cM g ad V) o (az_cM g ad V) := by
  refine az_body (cc := cX7_isGone) (maxL := 5) (ret := (some .boolean)) (Qc := fun A => az_QI g (az_cM g ad V) o A) (by decide +kernel) rfl (Nat.le_of_ble_eq_true rfl) ?_
  intro p e s m args below meth c A hx hb hr hts hown hml hlocks hA hK hP hD hS ls hl
  have hl : lv_has ls 5 [(0, .ref (ad 0)), (1, .int x1), (2, .int x2)] := hl
  unfold FX7_isGone at h
  have hL30 : ∀ (n : Nat) (y3 : Int32) (y4 : Int32) (H : Heap) (locs : List Loc) (ls : Array Slot), FX7_isGone_L30 n V x1 x2 y3 y4 = some o → va_P g.1 az_cl (az_cM g ad V) H → va_D A (az_cM g ad V) → va_S A s.heap H locs → lv_has ls 5 [(0, .ref (ad 0)), (1, .int x1), (2, .int x2), (3, .int y3), (4, .int y4)] → W p l e ({ frames := 3, cells := 0, slots := 0, locals := 67 } : Room) s m args below meth c H locs 0 0 (MQ below (az_QI g (az_cM g ad V) o A) args s 0 0 A) (F0 m 30 ls []) := by
    intro n
    induction n with
    | zero => intro y3 y4 H locs ls h; exact az_non h
    | succ n ih =>
      intro y3 y4 H locs ls h hP hD hS hl
      rw [FX7_isGone_L30_s] at h
      refine lv_iload hx hb dX7_isGone_30 (lv_at hl 4 rfl) ?_
      refine lv_bipush (v := (16 : Int32)) hx hb dX7_isGone_32 (by decide) ?_
      refine lv_iload_n hx hb dX7_isGone_34 rfl (lv_at hl 1 rfl) ?_
      refine lv_imul hx hb dX7_isGone_35 ?_
      refine lv_aload_n hx hb dX7_isGone_36 rfl (lv_at hl 0 rfl) ?_
      refine va_get (D := g.1) (ci := 7) (v := .ref (ad 1)) (C := RX7) (T := TX7) (N := 5) hx hb hts inX7_isGone_RX7 hown hK hP 0 rfl rfl 0 (Nat.le_of_ble_eq_true rfl) (hts _ (List.mem_of_getElem? (i := 1) rfl)) (fun _ h9 => h9) rfl dX7_isGone_37 ?_
      refine lv_iconst (v := (1 : Int32)) hx hb dX7_isGone_40 (by decide) ?_
      refine va_iald (D := g.1) (f := (V 0)) hx hb hK hP 1 0 rfl rfl (az_vin (by decide +kernel)) dX7_isGone_41 ?_
      refine lv_iadd hx hb dX7_isGone_42 ?_
      refine lv_icmp_ge (tgt := 83) hx hb dX7_isGone_43 (by decide) (fun c43 => ?_) (fun c43 => ?_)
      · replace h := az_pos c43 h
        refine lv_iload_n hx hb dX7_isGone_83 rfl (lv_at hl 3 rfl) ?_
        obtain ⟨z84, h⟩ := az_ite h
        have hP : va_P g.1 az_cl (az_cM g ad V) _ := hP
        have hD : va_D A (az_cM g ad V) := hD
        rw [← Option.some.inj h]
        exact az_zret hx hb hr hlocks (az_nar z84) hK hP hD hS dX7_isGone_84
      · replace h := az_neg c43 h
        refine lv_iload_n hx hb dX7_isGone_46 rfl (lv_at hl 3 rfl) ?_
        refine lv_if_eq (tgt := 83) hx hb dX7_isGone_47 (by decide) (fun c47 => ?_) (fun c47 => ?_)
        · replace h := az_pos c47 h
          refine lv_iload_n hx hb dX7_isGone_83 rfl (lv_at hl 3 rfl) ?_
          obtain ⟨z84, h⟩ := az_ite h
          have hP : va_P g.1 az_cl (az_cM g ad V) _ := hP
          have hD : va_D A (az_cM g ad V) := hD
          rw [← Option.some.inj h]
          exact az_zret hx hb hr hlocks (az_nar z84) hK hP hD hS dX7_isGone_84
        · replace h := az_neg c47 h
          refine lv_aload_n hx hb dX7_isGone_50 rfl (lv_at hl 0 rfl) ?_
          refine lv_iload hx hb dX7_isGone_51 (lv_at hl 4 rfl) ?_
          refine lv_iconst (v := (0 : Int32)) hx hb dX7_isGone_53 (by decide) ?_
          obtain ⟨o54, hc54, h⟩ := az_bnd h
          refine az_callVi (w2 := az_cM g ad V) (As := [.int y4, .int (0 : Int32)]) (rest := []) ⟨hx, hb, hml, hown, hts⟩ hl.1 (kX7_ofBlock l g ad V y4 (0 : Int32) o54 hc54) (cwV 2 hts gX7_isGone_X7_ofBlock rfl rfl rfl (by decide +kernel) ⟨Nat.le_of_ble_eq_true rfl, Nat.le_of_ble_eq_true rfl⟩) rfl hK hP hD hS hA [0, 1, 2, 3] [] [0, 1, 2, 3] rfl rfl rfl rfl rfl (by decide) rfl rfl rfl 0 rfl rfl rfl (Nat.le_of_ble_eq_true rfl) dX7_isGone_54 ⟨Nat.zero_le _, Nat.zero_le _⟩ rfl (fun H locs hP hD hS => ?_)
          refine lv_iconst (v := (4 : Int32)) hx hb dX7_isGone_57 (by decide) ?_
          refine lv_icmp_eq (tgt := 71) hx hb dX7_isGone_58 (by decide) (fun c58 => ?_) (fun c58 => ?_)
          · replace h := az_pos c58 h
            refine lv_iconst (v := (1 : Int32)) hx hb dX7_isGone_71 (by decide) ?_
            refine lv_goto (tgt := 76) hx hb dX7_isGone_72 (by decide) ?_
            refine lv_istore_n (lv' := [(3, .int (1 : Int32)), (0, .ref (ad 0)), (1, .int x1), (2, .int x2), (4, .int y4)]) hx hb dX7_isGone_76 rfl hl (by decide) rfl (fun ls hl => ?_)
            refine lv_iinc (v := y4 + (1 : Int32)) (lv' := [(4, .int (y4 + (1 : Int32))), (3, .int (1 : Int32)), (0, .ref (ad 0)), (1, .int x1), (2, .int x2)]) hx hb dX7_isGone_77 hl (k := 4) rfl (rfl) (by decide) rfl (fun ls hl => ?_)
            refine lv_goto (tgt := 30) hx hb dX7_isGone_80 (by decide) ?_
            have hP : va_P g.1 az_cl (az_cM g ad V) _ := hP
            have hD : va_D A (az_cM g ad V) := hD
            exact ih (1 : Int32) (y4 + (1 : Int32)) _ _ ls h hP hD hS (lv_sub hl [2, 3, 4, 1, 0] rfl)
          · replace h := az_neg c58 h
            refine lv_aload_n hx hb dX7_isGone_61 rfl (lv_at hl 0 rfl) ?_
            refine lv_iload hx hb dX7_isGone_62 (lv_at hl 4 rfl) ?_
            obtain ⟨o64, hc64, h⟩ := az_bnd h
            refine az_callVi (w2 := az_cM g ad V) (As := [.int y4]) (rest := []) ⟨hx, hb, hml, hown, hts⟩ hl.1 (kX7_advancesFor l g ad V y4 o64 hc64) (cwV 1 hts gX7_isGone_X7_advancesFor rfl rfl rfl (by decide +kernel) ⟨Nat.le_of_ble_eq_true rfl, Nat.le_of_ble_eq_true rfl⟩) rfl hK hP hD hS hA [0, 1, 2, 3] [] [0, 1, 2, 3] rfl rfl rfl rfl rfl (by decide) rfl rfl rfl 0 rfl rfl rfl (Nat.le_of_ble_eq_true rfl) dX7_isGone_64 ⟨Nat.zero_le _, Nat.zero_le _⟩ rfl (fun H locs hP hD hS => ?_)
            refine lv_iload_n hx hb dX7_isGone_67 rfl (lv_at hl 2 rfl) ?_
            refine lv_icmp_gt (tgt := 75) hx hb dX7_isGone_68 (by decide) (fun c68 => ?_) (fun c68 => ?_)
            · replace h := az_pos c68 h
              refine lv_iconst (v := (0 : Int32)) hx hb dX7_isGone_75 (by decide) ?_
              refine lv_istore_n (lv' := [(3, .int (0 : Int32)), (0, .ref (ad 0)), (1, .int x1), (2, .int x2), (4, .int y4)]) hx hb dX7_isGone_76 rfl hl (by decide) rfl (fun ls hl => ?_)
              refine lv_iinc (v := y4 + (1 : Int32)) (lv' := [(4, .int (y4 + (1 : Int32))), (3, .int (0 : Int32)), (0, .ref (ad 0)), (1, .int x1), (2, .int x2)]) hx hb dX7_isGone_77 hl (k := 4) rfl (rfl) (by decide) rfl (fun ls hl => ?_)
              refine lv_goto (tgt := 30) hx hb dX7_isGone_80 (by decide) ?_
              have hP : va_P g.1 az_cl (az_cM g ad V) _ := hP
              have hD : va_D A (az_cM g ad V) := hD
              exact ih (0 : Int32) (y4 + (1 : Int32)) _ _ ls h hP hD hS (lv_sub hl [2, 3, 4, 1, 0] rfl)
            · replace h := az_neg c68 h
              refine lv_iconst (v := (1 : Int32)) hx hb dX7_isGone_71 (by decide) ?_
              refine lv_goto (tgt := 76) hx hb dX7_isGone_72 (by decide) ?_
              refine lv_istore_n (lv' := [(3, .int (1 : Int32)), (0, .ref (ad 0)), (1, .int x1), (2, .int x2), (4, .int y4)]) hx hb dX7_isGone_76 rfl hl (by decide) rfl (fun ls hl => ?_)
              refine lv_iinc (v := y4 + (1 : Int32)) (lv' := [(4, .int (y4 + (1 : Int32))), (3, .int (1 : Int32)), (0, .ref (ad 0)), (1, .int x1), (2, .int x2)]) hx hb dX7_isGone_77 hl (k := 4) rfl (rfl) (by decide) rfl (fun ls hl => ?_)
              refine lv_goto (tgt := 30) hx hb dX7_isGone_80 (by decide) ?_
              have hP : va_P g.1 az_cl (az_cM g ad V) _ := hP
              have hD : va_D A (az_cM g ad V) := hD
              exact ih (1 : Int32) (y4 + (1 : Int32)) _ _ ls h hP hD hS (lv_sub hl [2, 3, 4, 1, 0] rfl)
  refine lv_aload_n hx hb dX7_isGone_0 rfl (lv_at hl 0 rfl) ?_
  refine lv_iload_n hx hb dX7_isGone_1 rfl (lv_at hl 1 rfl) ?_
  refine lv_iconst (v := (0 : Int32)) hx hb dX7_isGone_2 (by decide) ?_
  obtain ⟨o3, hc3, h⟩ := az_bnd h
  refine az_callVi (w2 := az_cM g ad V) (As := [.int x1, .int (0 : Int32)]) (rest := []) ⟨hx, hb, hml, hown, hts⟩ hl.1 (kX7_ofSegment l g ad V x1 (0 : Int32) o3 hc3) (cwV 2 hts gX7_isGone_X7_ofSegment rfl rfl rfl (by decide +kernel) ⟨Nat.le_of_ble_eq_true rfl, Nat.le_of_ble_eq_true rfl⟩) rfl hK hP hD hS hA [0, 1, 2, 3] [] [0, 1, 2, 3] rfl rfl rfl rfl rfl (by decide) rfl rfl rfl 0 rfl rfl rfl (Nat.le_of_ble_eq_true rfl) dX7_isGone_3 ⟨Nat.zero_le _, Nat.zero_le _⟩ rfl (fun H locs hP hD hS => ?_)
  refine lv_iconst (v := (2 : Int32)) hx hb dX7_isGone_6 (by decide) ?_
  refine lv_icmp_ne (tgt := 22) hx hb dX7_isGone_7 (by decide) (fun c7 => ?_) (fun c7 => ?_)
  · replace h := az_neg c7 h
    refine lv_iconst (v := (0 : Int32)) hx hb dX7_isGone_22 (by decide) ?_
    refine lv_istore_n (lv' := [(3, .int (0 : Int32)), (0, .ref (ad 0)), (1, .int x1), (2, .int x2)]) hx hb dX7_isGone_23 rfl hl (by decide) rfl (fun ls hl => ?_)
    refine lv_bipush (v := (16 : Int32)) hx hb dX7_isGone_24 (by decide) ?_
    refine lv_iload_n hx hb dX7_isGone_26 rfl (lv_at hl 2 rfl) ?_
    refine lv_imul hx hb dX7_isGone_27 ?_
    refine lv_istore (lv' := [(4, .int ((16 : Int32) * x1)), (3, .int (0 : Int32)), (0, .ref (ad 0)), (1, .int x1), (2, .int x2)]) hx hb dX7_isGone_28 hl (by decide) rfl (fun ls hl => ?_)
    have hP : va_P g.1 az_cl (az_cM g ad V) _ := hP
    have hD : va_D A (az_cM g ad V) := hD
    exact hL30 az_fuel (0 : Int32) ((16 : Int32) * x1) _ _ ls h hP hD hS (lv_sub hl [2, 3, 4, 1, 0] rfl)
  · replace h := az_pos c7 h
    refine lv_aload_n hx hb dX7_isGone_10 rfl (lv_at hl 0 rfl) ?_
    refine lv_iload_n hx hb dX7_isGone_11 rfl (lv_at hl 1 rfl) ?_
    obtain ⟨o12, hc12, h⟩ := az_bnd h
    refine az_callVi (w2 := az_cM g ad V) (As := [.int x1]) (rest := []) ⟨hx, hb, hml, hown, hts⟩ hl.1 (kX7_useOf l g ad V x1 o12 hc12) (cwV 1 hts gX7_isGone_X7_useOf rfl rfl rfl (by decide +kernel) ⟨Nat.le_of_ble_eq_true rfl, Nat.le_of_ble_eq_true rfl⟩) rfl hK hP hD hS hA [0, 1, 2, 3] [] [0, 1, 2, 3] rfl rfl rfl rfl rfl (by decide) rfl rfl rfl 0 rfl rfl rfl (Nat.le_of_ble_eq_true rfl) dX7_isGone_12 ⟨Nat.zero_le _, Nat.zero_le _⟩ rfl (fun H locs hP hD hS => ?_)
    refine lv_if_ne (tgt := 22) hx hb dX7_isGone_15 (by decide) (fun c15 => ?_) (fun c15 => ?_)
    · replace h := az_neg c15 h
      refine lv_iconst (v := (0 : Int32)) hx hb dX7_isGone_22 (by decide) ?_
      refine lv_istore_n (lv' := [(3, .int (0 : Int32)), (0, .ref (ad 0)), (1, .int x1), (2, .int x2)]) hx hb dX7_isGone_23 rfl hl (by decide) rfl (fun ls hl => ?_)
      refine lv_bipush (v := (16 : Int32)) hx hb dX7_isGone_24 (by decide) ?_
      refine lv_iload_n hx hb dX7_isGone_26 rfl (lv_at hl 2 rfl) ?_
      refine lv_imul hx hb dX7_isGone_27 ?_
      refine lv_istore (lv' := [(4, .int ((16 : Int32) * x1)), (3, .int (0 : Int32)), (0, .ref (ad 0)), (1, .int x1), (2, .int x2)]) hx hb dX7_isGone_28 hl (by decide) rfl (fun ls hl => ?_)
      have hP : va_P g.1 az_cl (az_cM g ad V) _ := hP
      have hD : va_D A (az_cM g ad V) := hD
      exact hL30 az_fuel (0 : Int32) ((16 : Int32) * x1) _ _ ls h hP hD hS (lv_sub hl [2, 3, 4, 1, 0] rfl)
    · replace h := az_pos c15 h
      refine lv_iconst (v := (1 : Int32)) hx hb dX7_isGone_18 (by decide) ?_
      refine lv_goto (tgt := 23) hx hb dX7_isGone_19 (by decide) ?_
      refine lv_istore_n (lv' := [(3, .int (1 : Int32)), (0, .ref (ad 0)), (1, .int x1), (2, .int x2)]) hx hb dX7_isGone_23 rfl hl (by decide) rfl (fun ls hl => ?_)
      refine lv_bipush (v := (16 : Int32)) hx hb dX7_isGone_24 (by decide) ?_
      refine lv_iload_n hx hb dX7_isGone_26 rfl (lv_at hl 2 rfl) ?_
      refine lv_imul hx hb dX7_isGone_27 ?_
      refine lv_istore (lv' := [(4, .int ((16 : Int32) * x1)), (3, .int (1 : Int32)), (0, .ref (ad 0)), (1, .int x1), (2, .int x2)]) hx hb dX7_isGone_28 hl (by decide) rfl (fun ls hl => ?_)
      have hP : va_P g.1 az_cl (az_cM g ad V) _ := hP
      have hD : va_D A (az_cM g ad V) := hD
      exact hL30 az_fuel (1 : Int32) ((16 : Int32) * x1) _ _ ls h hP hD hS (lv_sub hl [2, 3, 4, 1, 0] rfl)

def FX7_goneMany_L4 : Nat → az_St → Int32 → Int32 → Int32 → Option (Int32)
  | 0, _, _, _, _ => none
  | n + 1, V, x1, y2, y3 => if (V 0) (0 : Int32).toNatClampNeg ≤ y3 then (some (y2)) else ((FX7_isGone V y3 x1).bind (fun o18 => if o18 = (0 : Int32) then (FX7_goneMany_L4 n V x1 (y2 + (0 : Int32)) (y3 + (1 : Int32))) else (FX7_goneMany_L4 n V x1 (y2 + (1 : Int32)) (y3 + (1 : Int32)))))
theorem FX7_goneMany_L4_s (n : Nat) (V : az_St) (x1 : Int32) (y2 : Int32) (y3 : Int32) : FX7_goneMany_L4 (n + 1) V x1 y2 y3 = (if (V 0) (0 : Int32).toNatClampNeg ≤ y3 then (some (y2)) else ((FX7_isGone V y3 x1).bind (fun o18 => if o18 = (0 : Int32) then (FX7_goneMany_L4 n V x1 (y2 + (0 : Int32)) (y3 + (1 : Int32))) else (FX7_goneMany_L4 n V x1 (y2 + (1 : Int32)) (y3 + (1 : Int32)))))) := rfl
def FX7_goneMany (V : az_St) (x1 : Int32) : Option (Int32) := FX7_goneMany_L4 az_fuel V x1 (0 : Int32) (0 : Int32)
theorem inX7_goneMany_RX7 : ∀ w ∈ wsX70, w ∈ wsX7_goneMany := az_inr [27, 28, 29, 30, 31] (by decide +kernel)
set_option maxHeartbeats 4000000 in
set_option maxRecDepth 100000 in
theorem kX7_goneMany (l : Launch) (g : az_G) (ad : Nat → Nat) (V : az_St) (x1 : Int32) (o : Int32) (h : FX7_goneMany V x1 = some o) : az_I l yX7_goneMany wsX7_goneMany ({ frames := 4, cells := 0, slots := 0, locals := 91 } : Room) [.ref (ad 0), .int x1] g (az_cM g ad V) o (az_cM g ad V) := by
  refine az_body (cc := cX7_goneMany) (maxL := 4) (ret := (some .int)) (Qc := fun A => az_QI g (az_cM g ad V) o A) (by decide +kernel) rfl (Nat.le_of_ble_eq_true rfl) ?_
  intro p e s m args below meth c A hx hb hr hts hown hml hlocks hA hK hP hD hS ls hl
  have hl : lv_has ls 4 [(0, .ref (ad 0)), (1, .int x1)] := hl
  unfold FX7_goneMany at h
  have hL4 : ∀ (n : Nat) (y2 : Int32) (y3 : Int32) (H : Heap) (locs : List Loc) (ls : Array Slot), FX7_goneMany_L4 n V x1 y2 y3 = some o → va_P g.1 az_cl (az_cM g ad V) H → va_D A (az_cM g ad V) → va_S A s.heap H locs → lv_has ls 4 [(0, .ref (ad 0)), (1, .int x1), (2, .int y2), (3, .int y3)] → W p l e ({ frames := 4, cells := 0, slots := 0, locals := 91 } : Room) s m args below meth c H locs 0 0 (MQ below (az_QI g (az_cM g ad V) o A) args s 0 0 A) (F0 m 4 ls []) := by
    intro n
    induction n with
    | zero => intro y2 y3 H locs ls h; exact az_non h
    | succ n ih =>
      intro y2 y3 H locs ls h hP hD hS hl
      rw [FX7_goneMany_L4_s] at h
      refine lv_iload_n hx hb dX7_goneMany_4 rfl (lv_at hl 3 rfl) ?_
      refine lv_aload_n hx hb dX7_goneMany_5 rfl (lv_at hl 0 rfl) ?_
      refine va_get (D := g.1) (ci := 7) (v := .ref (ad 1)) (C := RX7) (T := TX7) (N := 5) hx hb hts inX7_goneMany_RX7 hown hK hP 0 rfl rfl 0 (Nat.le_of_ble_eq_true rfl) (hts _ (List.mem_of_getElem? (i := 1) rfl)) (fun _ h9 => h9) rfl dX7_goneMany_6 ?_
      refine lv_iconst (v := (0 : Int32)) hx hb dX7_goneMany_9 (by decide) ?_
      refine va_iald (D := g.1) (f := (V 0)) hx hb hK hP 1 0 rfl rfl (az_vin (by decide +kernel)) dX7_goneMany_10 ?_
      refine lv_icmp_ge (tgt := 37) hx hb dX7_goneMany_11 (by decide) (fun c11 => ?_) (fun c11 => ?_)
      · replace h := az_pos c11 h
        refine lv_iload_n hx hb dX7_goneMany_37 rfl (lv_at hl 2 rfl) ?_
        have hP : va_P g.1 az_cl (az_cM g ad V) _ := hP
        have hD : va_D A (az_cM g ad V) := hD
        rw [← Option.some.inj h]
        exact az_iret hx hb hr hlocks hK hP hD hS dX7_goneMany_38
      · replace h := az_neg c11 h
        refine lv_iload_n hx hb dX7_goneMany_14 rfl (lv_at hl 2 rfl) ?_
        refine lv_aload_n hx hb dX7_goneMany_15 rfl (lv_at hl 0 rfl) ?_
        refine lv_iload_n hx hb dX7_goneMany_16 rfl (lv_at hl 3 rfl) ?_
        refine lv_iload_n hx hb dX7_goneMany_17 rfl (lv_at hl 1 rfl) ?_
        obtain ⟨o18, hc18, h⟩ := az_bnd h
        refine az_callVi (w2 := az_cM g ad V) (As := [.int y3, .int x1]) (rest := [.int y2]) ⟨hx, hb, hml, hown, hts⟩ hl.1 (kX7_isGone l g ad V y3 x1 o18 hc18) (cwV 2 hts gX7_goneMany_X7_isGone rfl rfl rfl (by decide +kernel) ⟨Nat.le_of_ble_eq_true rfl, Nat.le_of_ble_eq_true rfl⟩) rfl hK hP hD hS hA [0, 1, 2, 3] [] [0, 1, 2, 3] rfl rfl rfl rfl rfl (by decide) rfl rfl rfl 0 rfl rfl rfl (Nat.le_of_ble_eq_true rfl) dX7_goneMany_18 ⟨Nat.zero_le _, Nat.zero_le _⟩ rfl (fun H locs hP hD hS => ?_)
        refine lv_if_eq (tgt := 28) hx hb dX7_goneMany_21 (by decide) (fun c21 => ?_) (fun c21 => ?_)
        · replace h := az_pos c21 h
          refine lv_iconst (v := (0 : Int32)) hx hb dX7_goneMany_28 (by decide) ?_
          refine lv_iadd hx hb dX7_goneMany_29 ?_
          refine lv_istore_n (lv' := [(2, .int (y2 + (0 : Int32))), (0, .ref (ad 0)), (1, .int x1), (3, .int y3)]) hx hb dX7_goneMany_30 rfl hl (by decide) rfl (fun ls hl => ?_)
          refine lv_iinc (v := y3 + (1 : Int32)) (lv' := [(3, .int (y3 + (1 : Int32))), (2, .int (y2 + (0 : Int32))), (0, .ref (ad 0)), (1, .int x1)]) hx hb dX7_goneMany_31 hl (k := 3) rfl (rfl) (by decide) rfl (fun ls hl => ?_)
          refine lv_goto (tgt := 4) hx hb dX7_goneMany_34 (by decide) ?_
          have hP : va_P g.1 az_cl (az_cM g ad V) _ := hP
          have hD : va_D A (az_cM g ad V) := hD
          exact ih (y2 + (0 : Int32)) (y3 + (1 : Int32)) _ _ ls h hP hD hS (lv_sub hl [2, 3, 1, 0] rfl)
        · replace h := az_neg c21 h
          refine lv_iconst (v := (1 : Int32)) hx hb dX7_goneMany_24 (by decide) ?_
          refine lv_goto (tgt := 29) hx hb dX7_goneMany_25 (by decide) ?_
          refine lv_iadd hx hb dX7_goneMany_29 ?_
          refine lv_istore_n (lv' := [(2, .int (y2 + (1 : Int32))), (0, .ref (ad 0)), (1, .int x1), (3, .int y3)]) hx hb dX7_goneMany_30 rfl hl (by decide) rfl (fun ls hl => ?_)
          refine lv_iinc (v := y3 + (1 : Int32)) (lv' := [(3, .int (y3 + (1 : Int32))), (2, .int (y2 + (1 : Int32))), (0, .ref (ad 0)), (1, .int x1)]) hx hb dX7_goneMany_31 hl (k := 3) rfl (rfl) (by decide) rfl (fun ls hl => ?_)
          refine lv_goto (tgt := 4) hx hb dX7_goneMany_34 (by decide) ?_
          have hP : va_P g.1 az_cl (az_cM g ad V) _ := hP
          have hD : va_D A (az_cM g ad V) := hD
          exact ih (y2 + (1 : Int32)) (y3 + (1 : Int32)) _ _ ls h hP hD hS (lv_sub hl [2, 3, 1, 0] rfl)
  refine lv_iconst (v := (0 : Int32)) hx hb dX7_goneMany_0 (by decide) ?_
  refine lv_istore_n (lv' := [(2, .int (0 : Int32)), (0, .ref (ad 0)), (1, .int x1)]) hx hb dX7_goneMany_1 rfl hl (by decide) rfl (fun ls hl => ?_)
  refine lv_iconst (v := (0 : Int32)) hx hb dX7_goneMany_2 (by decide) ?_
  refine lv_istore_n (lv' := [(3, .int (0 : Int32)), (2, .int (0 : Int32)), (0, .ref (ad 0)), (1, .int x1)]) hx hb dX7_goneMany_3 rfl hl (by decide) rfl (fun ls hl => ?_)
  have hP : va_P g.1 az_cl (az_cM g ad V) _ := hP
  have hD : va_D A (az_cM g ad V) := hD
  exact hL4 az_fuel (0 : Int32) (0 : Int32) _ _ ls h hP hD hS (lv_sub hl [2, 3, 1, 0] rfl)

def FX7_wouldErase (V : az_St) : Option (Int32 × (Nat → Int32)) := az_lt (upd (V 2) 1 (0 : Int32)) (fun u2 => (FX7_goneMany (va_up V 2 u2) (0 : Int32)).bind (fun o7 => some (o7, u2)))
theorem inX7_wouldErase_RX7 : ∀ w ∈ wsX70, w ∈ wsX7_wouldErase := az_inr [32, 33, 34, 35, 36] (by decide +kernel)
set_option maxHeartbeats 4000000 in
set_option maxRecDepth 100000 in
theorem kX7_wouldErase (l : Launch) (g : az_G) (ad : Nat → Nat) (V : az_St) (o : Int32 × (Nat → Int32)) (h : FX7_wouldErase V = some o) : az_I l yX7_wouldErase wsX7_wouldErase ({ frames := 5, cells := 0, slots := 0, locals := 114 } : Room) [.ref (ad 0)] g (az_cM g ad V) o.1 (az_cM g ad (va_up V 2 o.2)) := by
  refine az_body (cc := cX7_wouldErase) (maxL := 1) (ret := (some .int)) (Qc := fun A => az_QI g (az_cM g ad (va_up V 2 o.2)) o.1 A) (by decide +kernel) rfl (Nat.le_of_ble_eq_true rfl) ?_
  intro p e s m args below meth c A hx hb hr hts hown hml hlocks hA hK hP hD hS ls hl
  have hl : lv_has ls 1 [(0, .ref (ad 0))] := hl
  unfold FX7_wouldErase at h
  refine lv_aload_n hx hb dX7_wouldErase_0 rfl (lv_at hl 0 rfl) ?_
  refine lv_iconst (v := (0 : Int32)) hx hb dX7_wouldErase_1 (by decide) ?_
  refine va_put (D := g.1) (ci := 7) (v := .int (0 : Int32)) (ty := .int) (C := RX7) (T := TX7) (N := 5) hx hb hts inX7_wouldErase_RX7 tyX7 tyX7_ok nmX7 hown hK hP hD hS 0 rfl rfl 3 (Nat.le_of_ble_eq_true rfl) (hts _ (List.mem_of_getElem? (i := 1) rfl)) (fun _ h9 => h9) rfl (by decide +kernel) rfl rfl (Nat.le_of_ble_eq_true rfl) dX7_wouldErase_2 (fun H locs hP hD hS => ?_)
  obtain ⟨u2, e2⟩ : ∃ w : Nat → Int32, w = upd (V 2) 1 (0 : Int32) := ⟨_, rfl⟩
  have hP : va_P g.1 az_cl (az_cM g ad (va_up V 2 u2)) H := by rw [e2]; exact hP
  have hD : va_D A (az_cM g ad (va_up V 2 u2)) := by rw [e2]; exact hD
  replace h := az_let e2 h
  refine lv_aload_n hx hb dX7_wouldErase_5 rfl (lv_at hl 0 rfl) ?_
  refine lv_iconst (v := (0 : Int32)) hx hb dX7_wouldErase_6 (by decide) ?_
  obtain ⟨o7, hc7, h⟩ := az_bnd h
  refine az_callVi (w2 := az_cM g ad (va_up V 2 u2)) (As := [.int (0 : Int32)]) (rest := []) ⟨hx, hb, hml, hown, hts⟩ hl.1 (kX7_goneMany l g ad (va_up V 2 u2) (0 : Int32) o7 hc7) (cwV 1 hts gX7_wouldErase_X7_goneMany rfl rfl rfl (by decide +kernel) ⟨Nat.le_of_ble_eq_true rfl, Nat.le_of_ble_eq_true rfl⟩) rfl hK hP hD hS hA [0, 1, 2, 3] [] [0, 1, 2, 3] rfl rfl rfl rfl rfl (by decide) rfl rfl rfl 0 rfl rfl rfl (Nat.le_of_ble_eq_true rfl) dX7_wouldErase_7 ⟨Nat.zero_le _, Nat.zero_le _⟩ rfl (fun H locs hP hD hS => ?_)
  have hP : va_P g.1 az_cl (az_cM g ad (va_up V 2 u2)) _ := hP
  have hD : va_D A (az_cM g ad (va_up V 2 u2)) := hD
  rw [← Option.some.inj h]
  exact az_iret hx hb hr hlocks hK hP hD hS dX7_wouldErase_10

def FX7_moves_L64 : Nat → az_St → Int32 → (Nat → Int32) → Int32 → Int32 → Int32 → Int32 → Option ((Nat → Int32))
  | 0, _, _, _, _, _, _, _ => none
  | n + 1, V, x1, wV0, y2, y3, y5, y6 => if (4 : Int32) ≤ y6 then ((FX7_waits (va_up V 0 wV0) x1).bind (fun o106 => some (o106))) else (if (y3 >>> (y6 &&& 31)) &&& (1 : Int32) = (1 : Int32) then (if az_in (((868 : Int32) + ((24 : Int32) * y6)) + y2) 1036 = true then az_lt (upd wV0 (((868 : Int32) + ((24 : Int32) * y6)) + y2).toNatClampNeg y5) (fun u97 => FX7_moves_L64 n V x1 u97 y2 y3 y5 (y6 + (1 : Int32))) else none) else (FX7_moves_L64 n V x1 wV0 y2 y3 y5 (y6 + (1 : Int32))))
theorem FX7_moves_L64_s (n : Nat) (V : az_St) (x1 : Int32) (wV0 : Nat → Int32) (y2 : Int32) (y3 : Int32) (y5 : Int32) (y6 : Int32) : FX7_moves_L64 (n + 1) V x1 wV0 y2 y3 y5 y6 = (if (4 : Int32) ≤ y6 then ((FX7_waits (va_up V 0 wV0) x1).bind (fun o106 => some (o106))) else (if (y3 >>> (y6 &&& 31)) &&& (1 : Int32) = (1 : Int32) then (if az_in (((868 : Int32) + ((24 : Int32) * y6)) + y2) 1036 = true then az_lt (upd wV0 (((868 : Int32) + ((24 : Int32) * y6)) + y2).toNatClampNeg y5) (fun u97 => FX7_moves_L64 n V x1 u97 y2 y3 y5 (y6 + (1 : Int32))) else none) else (FX7_moves_L64 n V x1 wV0 y2 y3 y5 (y6 + (1 : Int32))))) := rfl
def FX7_moves (V : az_St) (x1 : Int32) : Option ((Nat → Int32)) := (FX7_ofBlock V x1 (1 : Int32)).bind (fun o3 => (FX7_snapshotsOf V x1).bind (fun o9 => (FX7_ofBlock V x1 (0 : Int32)).bind (fun o16 => (FX7_ofBlock V x1 (2 : Int32)).bind (fun o27 => (FX7_ofBlock V x1 (3 : Int32)).bind (fun o33 => (FX7_appends V (1 : Int32) o3 o27 o33 o16).bind (fun o38 => if o16 = (1 : Int32) then (if az_in ((840 : Int32) + o3) 1036 = true then az_lt (upd o38.2 ((840 : Int32) + o3).toNatClampNeg o38.1) (fun u60 => FX7_moves_L64 az_fuel V x1 u60 o3 o9 o38.1 (0 : Int32)) else none) else (FX7_moves_L64 az_fuel V x1 o38.2 o3 o9 o38.1 (0 : Int32))))))))
theorem inX7_moves_RX7 : ∀ w ∈ wsX70, w ∈ wsX7_moves := az_inr [39, 40, 41, 42, 43] (by decide +kernel)
set_option maxHeartbeats 4000000 in
set_option maxRecDepth 100000 in
theorem kX7_moves (l : Launch) (g : az_G) (ad : Nat → Nat) (V : az_St) (x1 : Int32) (o : (Nat → Int32)) (h : FX7_moves V x1 = some o) : az_V l yX7_moves wsX7_moves ({ frames := 3, cells := 0, slots := 0, locals := 71 } : Room) [.ref (ad 0), .int x1] g (az_cM g ad V) (az_cM g ad (va_up V 0 o)) := by
  refine az_body (cc := cX7_moves) (maxL := 7) (ret := none) (Qc := fun A => az_QV g (az_cM g ad (va_up V 0 o)) A) (by decide +kernel) rfl (Nat.le_of_ble_eq_true rfl) ?_
  intro p e s m args below meth c A hx hb hr hts hown hml hlocks hA hK hP hD hS ls hl
  have hl : lv_has ls 7 [(0, .ref (ad 0)), (1, .int x1)] := hl
  unfold FX7_moves at h
  have hL64 : ∀ (n : Nat) (wV0 : Nat → Int32) (y2 : Int32) (y3 : Int32) (y5 : Int32) (y6 : Int32) (H : Heap) (locs : List Loc) (ls : Array Slot), FX7_moves_L64 n V x1 wV0 y2 y3 y5 y6 = some o → va_P g.1 az_cl (az_cM g ad (va_up V 0 wV0)) H → va_D A (az_cM g ad (va_up V 0 wV0)) → va_S A s.heap H locs → lv_has ls 7 [(0, .ref (ad 0)), (1, .int x1), (2, .int y2), (3, .int y3), (5, .int y5), (6, .int y6)] → W p l e ({ frames := 3, cells := 0, slots := 0, locals := 71 } : Room) s m args below meth c H locs 0 0 (MQ below (az_QV g (az_cM g ad (va_up V 0 o)) A) args s 0 0 A) (F0 m 64 ls []) := by
    intro n
    induction n with
    | zero => intro wV0 y2 y3 y5 y6 H locs ls h; exact az_non h
    | succ n ih =>
      intro wV0 y2 y3 y5 y6 H locs ls h hP hD hS hl
      rw [FX7_moves_L64_s] at h
      refine lv_iload hx hb dX7_moves_64 (lv_at hl 5 rfl) ?_
      refine lv_iconst (v := (4 : Int32)) hx hb dX7_moves_66 (by decide) ?_
      refine lv_icmp_ge (tgt := 104) hx hb dX7_moves_67 (by decide) (fun c67 => ?_) (fun c67 => ?_)
      · replace h := az_pos c67 h
        refine lv_aload_n hx hb dX7_moves_104 rfl (lv_at hl 0 rfl) ?_
        refine lv_iload_n hx hb dX7_moves_105 rfl (lv_at hl 1 rfl) ?_
        obtain ⟨o106, hc106, h⟩ := az_bnd h
        refine az_callVv (w2 := az_cM g ad (va_up V 0 o106)) (As := [.int x1]) (rest := []) ⟨hx, hb, hml, hown, hts⟩ hl.1 (kX7_waits l g ad (va_up V 0 wV0) x1 o106 hc106) (cwV 1 hts gX7_moves_X7_waits rfl rfl rfl (by decide +kernel) ⟨Nat.le_of_ble_eq_true rfl, Nat.le_of_ble_eq_true rfl⟩) rfl hK hP hD hS hA [0, 1, 2, 3] [] [0, 1, 2, 3] rfl rfl rfl rfl rfl (by decide) rfl rfl rfl 0 rfl rfl rfl (Nat.le_of_ble_eq_true rfl) dX7_moves_106 ⟨Nat.zero_le _, Nat.zero_le _⟩ rfl (fun H locs hP hD hS => ?_)
        have hP : va_P g.1 az_cl (az_cM g ad (va_up V 0 o106)) _ := hP
        have hD : va_D A (az_cM g ad (va_up V 0 o106)) := hD
        rw [← Option.some.inj h]
        exact az_vret hx hb hr hlocks hK hP hD hS dX7_moves_109
      · replace h := az_neg c67 h
        refine lv_iload_n hx hb dX7_moves_70 rfl (lv_at hl 3 rfl) ?_
        refine lv_iload hx hb dX7_moves_71 (lv_at hl 5 rfl) ?_
        refine lv_ishr hx hb dX7_moves_73 ?_
        refine lv_iconst (v := (1 : Int32)) hx hb dX7_moves_74 (by decide) ?_
        refine lv_iand hx hb dX7_moves_75 ?_
        refine lv_iconst (v := (1 : Int32)) hx hb dX7_moves_76 (by decide) ?_
        refine lv_icmp_ne (tgt := 98) hx hb dX7_moves_77 (by decide) (fun c77 => ?_) (fun c77 => ?_)
        · replace h := az_neg c77 h
          refine lv_iinc (v := y6 + (1 : Int32)) (lv' := [(6, .int (y6 + (1 : Int32))), (0, .ref (ad 0)), (1, .int x1), (2, .int y2), (3, .int y3), (5, .int y5)]) hx hb dX7_moves_98 hl (k := 5) rfl (rfl) (by decide) rfl (fun ls hl => ?_)
          refine lv_goto (tgt := 64) hx hb dX7_moves_101 (by decide) ?_
          have hP : va_P g.1 az_cl (az_cM g ad (va_up V 0 wV0)) _ := hP
          have hD : va_D A (az_cM g ad (va_up V 0 wV0)) := hD
          exact ih wV0 y2 y3 y5 (y6 + (1 : Int32)) _ _ ls h hP hD hS (lv_sub hl [1, 2, 3, 4, 5, 0] rfl)
        · replace h := az_pos c77 h
          refine lv_aload_n hx hb dX7_moves_80 rfl (lv_at hl 0 rfl) ?_
          refine va_get (D := g.1) (ci := 7) (v := .ref (ad 1)) (C := RX7) (T := TX7) (N := 5) hx hb hts inX7_moves_RX7 hown hK hP 0 rfl rfl 0 (Nat.le_of_ble_eq_true rfl) (hts _ (List.mem_of_getElem? (i := 1) rfl)) (fun _ h9 => h9) rfl dX7_moves_81 ?_
          refine lv_sipush (v := (868 : Int32)) hx hb dX7_moves_84 (by decide) ?_
          refine lv_bipush (v := (24 : Int32)) hx hb dX7_moves_87 (by decide) ?_
          refine lv_iload hx hb dX7_moves_89 (lv_at hl 5 rfl) ?_
          refine lv_imul hx hb dX7_moves_91 ?_
          refine lv_iadd hx hb dX7_moves_92 ?_
          refine lv_iload_n hx hb dX7_moves_93 rfl (lv_at hl 2 rfl) ?_
          refine lv_iadd hx hb dX7_moves_94 ?_
          refine lv_iload hx hb dX7_moves_95 (lv_at hl 4 rfl) ?_
          obtain ⟨i97, h⟩ := az_ite h
          refine va_iast (D := g.1) (f := wV0) hx hb hK hP hD hS 1 0 rfl rfl (az_vin i97) dX7_moves_97 (fun H locs hP hD hS => ?_)
          obtain ⟨u97, e97⟩ : ∃ w : Nat → Int32, w = upd wV0 (((868 : Int32) + ((24 : Int32) * y6)) + y2).toNatClampNeg y5 := ⟨_, rfl⟩
          have hP : va_P g.1 az_cl (az_cM g ad (va_up V 0 u97)) H := by rw [e97]; exact hP
          have hD : va_D A (az_cM g ad (va_up V 0 u97)) := by rw [e97]; exact hD
          replace h := az_let e97 h
          refine lv_iinc (v := y6 + (1 : Int32)) (lv' := [(6, .int (y6 + (1 : Int32))), (0, .ref (ad 0)), (1, .int x1), (2, .int y2), (3, .int y3), (5, .int y5)]) hx hb dX7_moves_98 hl (k := 5) rfl (rfl) (by decide) rfl (fun ls hl => ?_)
          refine lv_goto (tgt := 64) hx hb dX7_moves_101 (by decide) ?_
          have hP : va_P g.1 az_cl (az_cM g ad (va_up V 0 u97)) _ := hP
          have hD : va_D A (az_cM g ad (va_up V 0 u97)) := hD
          exact ih u97 y2 y3 y5 (y6 + (1 : Int32)) _ _ ls h hP hD hS (lv_sub hl [1, 2, 3, 4, 5, 0] rfl)
  refine lv_aload_n hx hb dX7_moves_0 rfl (lv_at hl 0 rfl) ?_
  refine lv_iload_n hx hb dX7_moves_1 rfl (lv_at hl 1 rfl) ?_
  refine lv_iconst (v := (1 : Int32)) hx hb dX7_moves_2 (by decide) ?_
  obtain ⟨o3, hc3, h⟩ := az_bnd h
  refine az_callVi (w2 := az_cM g ad V) (As := [.int x1, .int (1 : Int32)]) (rest := []) ⟨hx, hb, hml, hown, hts⟩ hl.1 (kX7_ofBlock l g ad V x1 (1 : Int32) o3 hc3) (cwV 2 hts gX7_moves_X7_ofBlock rfl rfl rfl (by decide +kernel) ⟨Nat.le_of_ble_eq_true rfl, Nat.le_of_ble_eq_true rfl⟩) rfl hK hP hD hS hA [0, 1, 2, 3] [] [0, 1, 2, 3] rfl rfl rfl rfl rfl (by decide) rfl rfl rfl 0 rfl rfl rfl (Nat.le_of_ble_eq_true rfl) dX7_moves_3 ⟨Nat.zero_le _, Nat.zero_le _⟩ rfl (fun H locs hP hD hS => ?_)
  refine lv_istore_n (lv' := [(2, .int o3), (0, .ref (ad 0)), (1, .int x1)]) hx hb dX7_moves_6 rfl hl (by decide) rfl (fun ls hl => ?_)
  refine lv_aload_n hx hb dX7_moves_7 rfl (lv_at hl 1 rfl) ?_
  refine lv_iload_n hx hb dX7_moves_8 rfl (lv_at hl 2 rfl) ?_
  obtain ⟨o9, hc9, h⟩ := az_bnd h
  refine az_callVi (w2 := az_cM g ad V) (As := [.int x1]) (rest := []) ⟨hx, hb, hml, hown, hts⟩ hl.1 (kX7_snapshotsOf l g ad V x1 o9 hc9) (cwV 1 hts gX7_moves_X7_snapshotsOf rfl rfl rfl (by decide +kernel) ⟨Nat.le_of_ble_eq_true rfl, Nat.le_of_ble_eq_true rfl⟩) rfl hK hP hD hS hA [0, 1, 2, 3] [] [0, 1, 2, 3] rfl rfl rfl rfl rfl (by decide) rfl rfl rfl 0 rfl rfl rfl (Nat.le_of_ble_eq_true rfl) dX7_moves_9 ⟨Nat.zero_le _, Nat.zero_le _⟩ rfl (fun H locs hP hD hS => ?_)
  refine lv_istore_n (lv' := [(3, .int o9), (2, .int o3), (0, .ref (ad 0)), (1, .int x1)]) hx hb dX7_moves_12 rfl hl (by decide) rfl (fun ls hl => ?_)
  refine lv_aload_n hx hb dX7_moves_13 rfl (lv_at hl 2 rfl) ?_
  refine lv_iload_n hx hb dX7_moves_14 rfl (lv_at hl 3 rfl) ?_
  refine lv_iconst (v := (0 : Int32)) hx hb dX7_moves_15 (by decide) ?_
  obtain ⟨o16, hc16, h⟩ := az_bnd h
  refine az_callVi (w2 := az_cM g ad V) (As := [.int x1, .int (0 : Int32)]) (rest := []) ⟨hx, hb, hml, hown, hts⟩ hl.1 (kX7_ofBlock l g ad V x1 (0 : Int32) o16 hc16) (cwV 2 hts gX7_moves_X7_ofBlock rfl rfl rfl (by decide +kernel) ⟨Nat.le_of_ble_eq_true rfl, Nat.le_of_ble_eq_true rfl⟩) rfl hK hP hD hS hA [0, 1, 2, 3] [] [0, 1, 2, 3] rfl rfl rfl rfl rfl (by decide) rfl rfl rfl 0 rfl rfl rfl (Nat.le_of_ble_eq_true rfl) dX7_moves_16 ⟨Nat.zero_le _, Nat.zero_le _⟩ rfl (fun H locs hP hD hS => ?_)
  refine lv_istore (lv' := [(4, .int o16), (3, .int o9), (2, .int o3), (0, .ref (ad 0)), (1, .int x1)]) hx hb dX7_moves_19 hl (by decide) rfl (fun ls hl => ?_)
  refine lv_aload_n hx hb dX7_moves_21 rfl (lv_at hl 3 rfl) ?_
  refine lv_iconst (v := (1 : Int32)) hx hb dX7_moves_22 (by decide) ?_
  refine lv_iload_n hx hb dX7_moves_23 rfl (lv_at hl 2 rfl) ?_
  refine lv_aload_n hx hb dX7_moves_24 rfl (lv_at hl 3 rfl) ?_
  refine lv_iload_n hx hb dX7_moves_25 rfl (lv_at hl 4 rfl) ?_
  refine lv_iconst (v := (2 : Int32)) hx hb dX7_moves_26 (by decide) ?_
  obtain ⟨o27, hc27, h⟩ := az_bnd h
  refine az_callVi (w2 := az_cM g ad V) (As := [.int x1, .int (2 : Int32)]) (rest := [.int o3, .int (1 : Int32), .ref (ad 0)]) ⟨hx, hb, hml, hown, hts⟩ hl.1 (kX7_ofBlock l g ad V x1 (2 : Int32) o27 hc27) (cwV 2 hts gX7_moves_X7_ofBlock rfl rfl rfl (by decide +kernel) ⟨Nat.le_of_ble_eq_true rfl, Nat.le_of_ble_eq_true rfl⟩) rfl hK hP hD hS hA [0, 1, 2, 3] [] [0, 1, 2, 3] rfl rfl rfl rfl rfl (by decide) rfl rfl rfl 0 rfl rfl rfl (Nat.le_of_ble_eq_true rfl) dX7_moves_27 ⟨Nat.zero_le _, Nat.zero_le _⟩ rfl (fun H locs hP hD hS => ?_)
  refine lv_aload_n hx hb dX7_moves_30 rfl (lv_at hl 3 rfl) ?_
  refine lv_iload_n hx hb dX7_moves_31 rfl (lv_at hl 4 rfl) ?_
  refine lv_iconst (v := (3 : Int32)) hx hb dX7_moves_32 (by decide) ?_
  obtain ⟨o33, hc33, h⟩ := az_bnd h
  refine az_callVi (w2 := az_cM g ad V) (As := [.int x1, .int (3 : Int32)]) (rest := [.int o27, .int o3, .int (1 : Int32), .ref (ad 0)]) ⟨hx, hb, hml, hown, hts⟩ hl.1 (kX7_ofBlock l g ad V x1 (3 : Int32) o33 hc33) (cwV 2 hts gX7_moves_X7_ofBlock rfl rfl rfl (by decide +kernel) ⟨Nat.le_of_ble_eq_true rfl, Nat.le_of_ble_eq_true rfl⟩) rfl hK hP hD hS hA [0, 1, 2, 3] [] [0, 1, 2, 3] rfl rfl rfl rfl rfl (by decide) rfl rfl rfl 0 rfl rfl rfl (Nat.le_of_ble_eq_true rfl) dX7_moves_33 ⟨Nat.zero_le _, Nat.zero_le _⟩ rfl (fun H locs hP hD hS => ?_)
  refine lv_iload hx hb dX7_moves_36 (lv_at hl 0 rfl) ?_
  obtain ⟨o38, hc38, h⟩ := az_bnd h
  refine az_callVi (w2 := az_cM g ad (va_up V 0 o38.2)) (As := [.int (1 : Int32), .int o3, .int o27, .int o33, .int o16]) (rest := []) ⟨hx, hb, hml, hown, hts⟩ hl.1 (kX7_appends l g ad V (1 : Int32) o3 o27 o33 o16 o38 hc38) (cwV 5 hts gX7_moves_X7_appends rfl rfl rfl (by decide +kernel) ⟨Nat.le_of_ble_eq_true rfl, Nat.le_of_ble_eq_true rfl⟩) rfl hK hP hD hS hA [0, 1, 2, 3] [] [0, 1, 2, 3] rfl rfl rfl rfl rfl (by decide) rfl rfl rfl 0 rfl rfl rfl (Nat.le_of_ble_eq_true rfl) dX7_moves_38 ⟨Nat.zero_le _, Nat.zero_le _⟩ rfl (fun H locs hP hD hS => ?_)
  refine lv_istore (lv' := [(5, .int o38.1), (4, .int o16), (3, .int o9), (2, .int o3), (0, .ref (ad 0)), (1, .int x1)]) hx hb dX7_moves_41 hl (by decide) rfl (fun ls hl => ?_)
  refine lv_iload hx hb dX7_moves_43 (lv_at hl 1 rfl) ?_
  refine lv_iconst (v := (1 : Int32)) hx hb dX7_moves_45 (by decide) ?_
  refine lv_icmp_ne (tgt := 61) hx hb dX7_moves_46 (by decide) (fun c46 => ?_) (fun c46 => ?_)
  · replace h := az_neg c46 h
    refine lv_iconst (v := (0 : Int32)) hx hb dX7_moves_61 (by decide) ?_
    refine lv_istore (lv' := [(6, .int (0 : Int32)), (5, .int o38.1), (4, .int o16), (3, .int o9), (2, .int o3), (0, .ref (ad 0)), (1, .int x1)]) hx hb dX7_moves_62 hl (by decide) rfl (fun ls hl => ?_)
    have hP : va_P g.1 az_cl (az_cM g ad (va_up V 0 o38.2)) _ := hP
    have hD : va_D A (az_cM g ad (va_up V 0 o38.2)) := hD
    exact hL64 az_fuel o38.2 o3 o9 o38.1 (0 : Int32) _ _ ls h hP hD hS (lv_sub hl [5, 6, 4, 3, 1, 0] rfl)
  · replace h := az_pos c46 h
    refine lv_aload_n hx hb dX7_moves_49 rfl (lv_at hl 4 rfl) ?_
    refine va_get (D := g.1) (ci := 7) (v := .ref (ad 1)) (C := RX7) (T := TX7) (N := 5) hx hb hts inX7_moves_RX7 hown hK hP 0 rfl rfl 0 (Nat.le_of_ble_eq_true rfl) (hts _ (List.mem_of_getElem? (i := 1) rfl)) (fun _ h9 => h9) rfl dX7_moves_50 ?_
    refine lv_sipush (v := (840 : Int32)) hx hb dX7_moves_53 (by decide) ?_
    refine lv_iload_n hx hb dX7_moves_56 rfl (lv_at hl 3 rfl) ?_
    refine lv_iadd hx hb dX7_moves_57 ?_
    refine lv_iload hx hb dX7_moves_58 (lv_at hl 0 rfl) ?_
    obtain ⟨i60, h⟩ := az_ite h
    refine va_iast (D := g.1) (f := o38.2) hx hb hK hP hD hS 1 0 rfl rfl (az_vin i60) dX7_moves_60 (fun H locs hP hD hS => ?_)
    obtain ⟨u60, e60⟩ : ∃ w : Nat → Int32, w = upd o38.2 ((840 : Int32) + o3).toNatClampNeg o38.1 := ⟨_, rfl⟩
    have hP : va_P g.1 az_cl (az_cM g ad (va_up V 0 u60)) H := by rw [e60]; exact hP
    have hD : va_D A (az_cM g ad (va_up V 0 u60)) := by rw [e60]; exact hD
    replace h := az_let e60 h
    refine lv_iconst (v := (0 : Int32)) hx hb dX7_moves_61 (by decide) ?_
    refine lv_istore (lv' := [(6, .int (0 : Int32)), (5, .int o38.1), (4, .int o16), (3, .int o9), (2, .int o3), (0, .ref (ad 0)), (1, .int x1)]) hx hb dX7_moves_62 hl (by decide) rfl (fun ls hl => ?_)
    have hP : va_P g.1 az_cl (az_cM g ad (va_up V 0 u60)) _ := hP
    have hD : va_D A (az_cM g ad (va_up V 0 u60)) := hD
    exact hL64 az_fuel u60 o3 o9 o38.1 (0 : Int32) _ _ ls h hP hD hS (lv_sub hl [5, 6, 4, 3, 1, 0] rfl)

def FX7_hasRoom (V : az_St) (x1 : Int32) : Option (Int32) := (FX7_useOf V x1).bind (fun o2 => (FX7_leftIn V (1 : Int32)).bind (fun o7 => (FX7_frees V).bind (fun o11 => if o7 + (o11 * ((V 0) (1 : Int32).toNatClampNeg)) < o2 then (some ((0 : Int32))) else (some ((1 : Int32))))))
theorem inX7_hasRoom_RX7 : ∀ w ∈ wsX70, w ∈ wsX7_hasRoom := az_inr [27, 28, 29, 30, 31] (by decide +kernel)
set_option maxHeartbeats 4000000 in
set_option maxRecDepth 100000 in
theorem kX7_hasRoom (l : Launch) (g : az_G) (ad : Nat → Nat) (V : az_St) (x1 : Int32) (o : Int32) (h : FX7_hasRoom V x1 = some o) : az_I l yX7_hasRoom wsX7_hasRoom ({ frames := 3, cells := 0, slots := 0, locals := 67 } : Room) [.ref (ad 0), .int x1] g (az_cM g ad V) o (az_cM g ad V) := by
  refine az_body (cc := cX7_hasRoom) (maxL := 2) (ret := (some .boolean)) (Qc := fun A => az_QI g (az_cM g ad V) o A) (by decide +kernel) rfl (Nat.le_of_ble_eq_true rfl) ?_
  intro p e s m args below meth c A hx hb hr hts hown hml hlocks hA hK hP hD hS ls hl
  have hl : lv_has ls 2 [(0, .ref (ad 0)), (1, .int x1)] := hl
  unfold FX7_hasRoom at h
  refine lv_aload_n hx hb dX7_hasRoom_0 rfl (lv_at hl 0 rfl) ?_
  refine lv_iload_n hx hb dX7_hasRoom_1 rfl (lv_at hl 1 rfl) ?_
  obtain ⟨o2, hc2, h⟩ := az_bnd h
  refine az_callVi (w2 := az_cM g ad V) (As := [.int x1]) (rest := []) ⟨hx, hb, hml, hown, hts⟩ hl.1 (kX7_useOf l g ad V x1 o2 hc2) (cwV 1 hts gX7_hasRoom_X7_useOf rfl rfl rfl (by decide +kernel) ⟨Nat.le_of_ble_eq_true rfl, Nat.le_of_ble_eq_true rfl⟩) rfl hK hP hD hS hA [0, 1, 2, 3] [] [0, 1, 2, 3] rfl rfl rfl rfl rfl (by decide) rfl rfl rfl 0 rfl rfl rfl (Nat.le_of_ble_eq_true rfl) dX7_hasRoom_2 ⟨Nat.zero_le _, Nat.zero_le _⟩ rfl (fun H locs hP hD hS => ?_)
  refine lv_aload_n hx hb dX7_hasRoom_5 rfl (lv_at hl 0 rfl) ?_
  refine lv_iconst (v := (1 : Int32)) hx hb dX7_hasRoom_6 (by decide) ?_
  obtain ⟨o7, hc7, h⟩ := az_bnd h
  refine az_callVi (w2 := az_cM g ad V) (As := [.int (1 : Int32)]) (rest := [.int o2]) ⟨hx, hb, hml, hown, hts⟩ hl.1 (kX7_leftIn l g ad V (1 : Int32) o7 hc7) (cwV 1 hts gX7_hasRoom_X7_leftIn rfl rfl rfl (by decide +kernel) ⟨Nat.le_of_ble_eq_true rfl, Nat.le_of_ble_eq_true rfl⟩) rfl hK hP hD hS hA [0, 1, 2, 3] [] [0, 1, 2, 3] rfl rfl rfl rfl rfl (by decide) rfl rfl rfl 0 rfl rfl rfl (Nat.le_of_ble_eq_true rfl) dX7_hasRoom_7 ⟨Nat.zero_le _, Nat.zero_le _⟩ rfl (fun H locs hP hD hS => ?_)
  refine lv_aload_n hx hb dX7_hasRoom_10 rfl (lv_at hl 0 rfl) ?_
  obtain ⟨o11, hc11, h⟩ := az_bnd h
  refine az_callVi (w2 := az_cM g ad V) (As := []) (rest := [.int o7, .int o2]) ⟨hx, hb, hml, hown, hts⟩ hl.1 (kX7_frees l g ad V o11 hc11) (cwV 0 hts gX7_hasRoom_X7_frees rfl rfl rfl (by decide +kernel) ⟨Nat.le_of_ble_eq_true rfl, Nat.le_of_ble_eq_true rfl⟩) rfl hK hP hD hS hA [0, 1, 2, 3] [] [0, 1, 2, 3] rfl rfl rfl rfl rfl (by decide) rfl rfl rfl 0 rfl rfl rfl (Nat.le_of_ble_eq_true rfl) dX7_hasRoom_11 ⟨Nat.zero_le _, Nat.zero_le _⟩ rfl (fun H locs hP hD hS => ?_)
  refine lv_aload_n hx hb dX7_hasRoom_14 rfl (lv_at hl 0 rfl) ?_
  refine va_get (D := g.1) (ci := 7) (v := .ref (ad 1)) (C := RX7) (T := TX7) (N := 5) hx hb hts inX7_hasRoom_RX7 hown hK hP 0 rfl rfl 0 (Nat.le_of_ble_eq_true rfl) (hts _ (List.mem_of_getElem? (i := 1) rfl)) (fun _ h9 => h9) rfl dX7_hasRoom_15 ?_
  refine lv_iconst (v := (1 : Int32)) hx hb dX7_hasRoom_18 (by decide) ?_
  refine va_iald (D := g.1) (f := (V 0)) hx hb hK hP 1 0 rfl rfl (az_vin (by decide +kernel)) dX7_hasRoom_19 ?_
  refine lv_imul hx hb dX7_hasRoom_20 ?_
  refine lv_iadd hx hb dX7_hasRoom_21 ?_
  refine lv_icmp_gt (tgt := 29) hx hb dX7_hasRoom_22 (by decide) (fun c22 => ?_) (fun c22 => ?_)
  · replace h := az_pos c22 h
    refine lv_iconst (v := (0 : Int32)) hx hb dX7_hasRoom_29 (by decide) ?_
    have hP : va_P g.1 az_cl (az_cM g ad V) _ := hP
    have hD : va_D A (az_cM g ad V) := hD
    rw [← Option.some.inj h]
    exact az_zret hx hb hr hlocks (az_nar (r := (0 : Int32)) (by decide +kernel)) hK hP hD hS dX7_hasRoom_30
  · replace h := az_neg c22 h
    refine lv_iconst (v := (1 : Int32)) hx hb dX7_hasRoom_25 (by decide) ?_
    refine lv_goto (tgt := 30) hx hb dX7_hasRoom_26 (by decide) ?_
    have hP : va_P g.1 az_cl (az_cM g ad V) _ := hP
    have hD : va_D A (az_cM g ad V) := hD
    rw [← Option.some.inj h]
    exact az_zret hx hb hr hlocks (az_nar (r := (1 : Int32)) (by decide +kernel)) hK hP hD hS dX7_hasRoom_30

def FX7_relocates_L7 : Nat → az_St → Int32 → (Nat → Int32) → Int32 → Int32 → Option (Int32 × (Nat → Int32))
  | 0, _, _, _, _, _ => none
  | n + 1, V, x1, wV0, y2, y3 => if ((16 : Int32) * x1) + (wV0 (1 : Int32).toNatClampNeg) ≤ y3 then (az_lt (upd wV0 (7 : Int32).toNatClampNeg ((wV0 (7 : Int32).toNatClampNeg) + y2)) (fun u69 => some (y2, u69))) else ((FX7_ofBlock (va_up V 0 wV0) y3 (0 : Int32)).bind (fun o25 => if o25 = (1 : Int32) then ((FX7_moves (va_up V 0 wV0) y3).bind (fun o47 => FX7_relocates_L7 n V x1 o47 (y2 + (1 : Int32)) (y3 + (1 : Int32)))) else ((FX7_ofBlock (va_up V 0 wV0) y3 (0 : Int32)).bind (fun o35 => if o35 = (2 : Int32) then ((FX7_moves (va_up V 0 wV0) y3).bind (fun o47 => FX7_relocates_L7 n V x1 o47 (y2 + (1 : Int32)) (y3 + (1 : Int32)))) else (FX7_relocates_L7 n V x1 wV0 y2 (y3 + (1 : Int32)))))))
theorem FX7_relocates_L7_s (n : Nat) (V : az_St) (x1 : Int32) (wV0 : Nat → Int32) (y2 : Int32) (y3 : Int32) : FX7_relocates_L7 (n + 1) V x1 wV0 y2 y3 = (if ((16 : Int32) * x1) + (wV0 (1 : Int32).toNatClampNeg) ≤ y3 then (az_lt (upd wV0 (7 : Int32).toNatClampNeg ((wV0 (7 : Int32).toNatClampNeg) + y2)) (fun u69 => some (y2, u69))) else ((FX7_ofBlock (va_up V 0 wV0) y3 (0 : Int32)).bind (fun o25 => if o25 = (1 : Int32) then ((FX7_moves (va_up V 0 wV0) y3).bind (fun o47 => FX7_relocates_L7 n V x1 o47 (y2 + (1 : Int32)) (y3 + (1 : Int32)))) else ((FX7_ofBlock (va_up V 0 wV0) y3 (0 : Int32)).bind (fun o35 => if o35 = (2 : Int32) then ((FX7_moves (va_up V 0 wV0) y3).bind (fun o47 => FX7_relocates_L7 n V x1 o47 (y2 + (1 : Int32)) (y3 + (1 : Int32)))) else (FX7_relocates_L7 n V x1 wV0 y2 (y3 + (1 : Int32)))))))) := rfl
def FX7_relocates (V : az_St) (x1 : Int32) : Option (Int32 × (Nat → Int32)) := FX7_relocates_L7 az_fuel V x1 (V 0) (0 : Int32) ((16 : Int32) * x1)
theorem inX7_relocates_RX7 : ∀ w ∈ wsX70, w ∈ wsX7_relocates := az_inr [43, 44, 45, 46, 47] (by decide +kernel)
set_option maxHeartbeats 4000000 in
set_option maxRecDepth 100000 in
theorem kX7_relocates (l : Launch) (g : az_G) (ad : Nat → Nat) (V : az_St) (x1 : Int32) (o : Int32 × (Nat → Int32)) (h : FX7_relocates V x1 = some o) : az_I l yX7_relocates wsX7_relocates ({ frames := 4, cells := 0, slots := 0, locals := 97 } : Room) [.ref (ad 0), .int x1] g (az_cM g ad V) o.1 (az_cM g ad (va_up V 0 o.2)) := by
  refine az_body (cc := cX7_relocates) (maxL := 4) (ret := (some .int)) (Qc := fun A => az_QI g (az_cM g ad (va_up V 0 o.2)) o.1 A) (by decide +kernel) rfl (Nat.le_of_ble_eq_true rfl) ?_
  intro p e s m args below meth c A hx hb hr hts hown hml hlocks hA hK hP hD hS ls hl
  have hl : lv_has ls 4 [(0, .ref (ad 0)), (1, .int x1)] := hl
  unfold FX7_relocates at h
  have hL7 : ∀ (n : Nat) (wV0 : Nat → Int32) (y2 : Int32) (y3 : Int32) (H : Heap) (locs : List Loc) (ls : Array Slot), FX7_relocates_L7 n V x1 wV0 y2 y3 = some o → va_P g.1 az_cl (az_cM g ad (va_up V 0 wV0)) H → va_D A (az_cM g ad (va_up V 0 wV0)) → va_S A s.heap H locs → lv_has ls 4 [(0, .ref (ad 0)), (1, .int x1), (2, .int y2), (3, .int y3)] → W p l e ({ frames := 4, cells := 0, slots := 0, locals := 97 } : Room) s m args below meth c H locs 0 0 (MQ below (az_QI g (az_cM g ad (va_up V 0 o.2)) o.1 A) args s 0 0 A) (F0 m 7 ls []) := by
    intro n
    induction n with
    | zero => intro wV0 y2 y3 H locs ls h; exact az_non h
    | succ n ih =>
      intro wV0 y2 y3 H locs ls h hP hD hS hl
      rw [FX7_relocates_L7_s] at h
      refine lv_iload_n hx hb dX7_relocates_7 rfl (lv_at hl 3 rfl) ?_
      refine lv_bipush (v := (16 : Int32)) hx hb dX7_relocates_8 (by decide) ?_
      refine lv_iload_n hx hb dX7_relocates_10 rfl (lv_at hl 1 rfl) ?_
      refine lv_imul hx hb dX7_relocates_11 ?_
      refine lv_aload_n hx hb dX7_relocates_12 rfl (lv_at hl 0 rfl) ?_
      refine va_get (D := g.1) (ci := 7) (v := .ref (ad 1)) (C := RX7) (T := TX7) (N := 5) hx hb hts inX7_relocates_RX7 hown hK hP 0 rfl rfl 0 (Nat.le_of_ble_eq_true rfl) (hts _ (List.mem_of_getElem? (i := 1) rfl)) (fun _ h9 => h9) rfl dX7_relocates_13 ?_
      refine lv_iconst (v := (1 : Int32)) hx hb dX7_relocates_16 (by decide) ?_
      refine va_iald (D := g.1) (f := wV0) hx hb hK hP 1 0 rfl rfl (az_vin (by decide +kernel)) dX7_relocates_17 ?_
      refine lv_iadd hx hb dX7_relocates_18 ?_
      refine lv_icmp_ge (tgt := 59) hx hb dX7_relocates_19 (by decide) (fun c19 => ?_) (fun c19 => ?_)
      · replace h := az_pos c19 h
        refine lv_aload_n hx hb dX7_relocates_59 rfl (lv_at hl 0 rfl) ?_
        refine va_get (D := g.1) (ci := 7) (v := .ref (ad 1)) (C := RX7) (T := TX7) (N := 5) hx hb hts inX7_relocates_RX7 hown hK hP 0 rfl rfl 0 (Nat.le_of_ble_eq_true rfl) (hts _ (List.mem_of_getElem? (i := 1) rfl)) (fun _ h9 => h9) rfl dX7_relocates_60 ?_
        refine lv_bipush (v := (7 : Int32)) hx hb dX7_relocates_63 (by decide) ?_
        refine lv_dup2_11 hx hb dX7_relocates_65 rfl rfl ?_
        refine va_iald (D := g.1) (f := wV0) hx hb hK hP 1 0 rfl rfl (az_vin (by decide +kernel)) dX7_relocates_66 ?_
        refine lv_iload_n hx hb dX7_relocates_67 rfl (lv_at hl 2 rfl) ?_
        refine lv_iadd hx hb dX7_relocates_68 ?_
        refine va_iast (D := g.1) (f := wV0) hx hb hK hP hD hS 1 0 rfl rfl (az_vin (by decide +kernel)) dX7_relocates_69 (fun H locs hP hD hS => ?_)
        obtain ⟨u69, e69⟩ : ∃ w : Nat → Int32, w = upd wV0 (7 : Int32).toNatClampNeg ((wV0 (7 : Int32).toNatClampNeg) + y2) := ⟨_, rfl⟩
        have hP : va_P g.1 az_cl (az_cM g ad (va_up V 0 u69)) H := by rw [e69]; exact hP
        have hD : va_D A (az_cM g ad (va_up V 0 u69)) := by rw [e69]; exact hD
        replace h := az_let e69 h
        refine lv_iload_n hx hb dX7_relocates_70 rfl (lv_at hl 2 rfl) ?_
        have hP : va_P g.1 az_cl (az_cM g ad (va_up V 0 u69)) _ := hP
        have hD : va_D A (az_cM g ad (va_up V 0 u69)) := hD
        rw [← Option.some.inj h]
        exact az_iret hx hb hr hlocks hK hP hD hS dX7_relocates_71
      · replace h := az_neg c19 h
        refine lv_aload_n hx hb dX7_relocates_22 rfl (lv_at hl 0 rfl) ?_
        refine lv_iload_n hx hb dX7_relocates_23 rfl (lv_at hl 3 rfl) ?_
        refine lv_iconst (v := (0 : Int32)) hx hb dX7_relocates_24 (by decide) ?_
        obtain ⟨o25, hc25, h⟩ := az_bnd h
        refine az_callVi (w2 := az_cM g ad (va_up V 0 wV0)) (As := [.int y3, .int (0 : Int32)]) (rest := []) ⟨hx, hb, hml, hown, hts⟩ hl.1 (kX7_ofBlock l g ad (va_up V 0 wV0) y3 (0 : Int32) o25 hc25) (cwV 2 hts gX7_relocates_X7_ofBlock rfl rfl rfl (by decide +kernel) ⟨Nat.le_of_ble_eq_true rfl, Nat.le_of_ble_eq_true rfl⟩) rfl hK hP hD hS hA [0, 1, 2, 3] [] [0, 1, 2, 3] rfl rfl rfl rfl rfl (by decide) rfl rfl rfl 0 rfl rfl rfl (Nat.le_of_ble_eq_true rfl) dX7_relocates_25 ⟨Nat.zero_le _, Nat.zero_le _⟩ rfl (fun H locs hP hD hS => ?_)
        refine lv_iconst (v := (1 : Int32)) hx hb dX7_relocates_28 (by decide) ?_
        refine lv_icmp_eq (tgt := 45) hx hb dX7_relocates_29 (by decide) (fun c29 => ?_) (fun c29 => ?_)
        · replace h := az_pos c29 h
          refine lv_aload_n hx hb dX7_relocates_45 rfl (lv_at hl 0 rfl) ?_
          refine lv_iload_n hx hb dX7_relocates_46 rfl (lv_at hl 3 rfl) ?_
          obtain ⟨o47, hc47, h⟩ := az_bnd h
          refine az_callVv (w2 := az_cM g ad (va_up V 0 o47)) (As := [.int y3]) (rest := []) ⟨hx, hb, hml, hown, hts⟩ hl.1 (kX7_moves l g ad (va_up V 0 wV0) y3 o47 hc47) (cwV 1 hts gX7_relocates_X7_moves rfl rfl rfl (by decide +kernel) ⟨Nat.le_of_ble_eq_true rfl, Nat.le_of_ble_eq_true rfl⟩) rfl hK hP hD hS hA [0, 1, 2, 3] [] [0, 1, 2, 3] rfl rfl rfl rfl rfl (by decide) rfl rfl rfl 0 rfl rfl rfl (Nat.le_of_ble_eq_true rfl) dX7_relocates_47 ⟨Nat.zero_le _, Nat.zero_le _⟩ rfl (fun H locs hP hD hS => ?_)
          refine lv_iinc (v := y2 + (1 : Int32)) (lv' := [(2, .int (y2 + (1 : Int32))), (0, .ref (ad 0)), (1, .int x1), (3, .int y3)]) hx hb dX7_relocates_50 hl (k := 2) rfl (rfl) (by decide) rfl (fun ls hl => ?_)
          refine lv_iinc (v := y3 + (1 : Int32)) (lv' := [(3, .int (y3 + (1 : Int32))), (2, .int (y2 + (1 : Int32))), (0, .ref (ad 0)), (1, .int x1)]) hx hb dX7_relocates_53 hl (k := 3) rfl (rfl) (by decide) rfl (fun ls hl => ?_)
          refine lv_goto (tgt := 7) hx hb dX7_relocates_56 (by decide) ?_
          have hP : va_P g.1 az_cl (az_cM g ad (va_up V 0 o47)) _ := hP
          have hD : va_D A (az_cM g ad (va_up V 0 o47)) := hD
          exact ih o47 (y2 + (1 : Int32)) (y3 + (1 : Int32)) _ _ ls h hP hD hS (lv_sub hl [2, 3, 1, 0] rfl)
        · replace h := az_neg c29 h
          refine lv_aload_n hx hb dX7_relocates_32 rfl (lv_at hl 0 rfl) ?_
          refine lv_iload_n hx hb dX7_relocates_33 rfl (lv_at hl 3 rfl) ?_
          refine lv_iconst (v := (0 : Int32)) hx hb dX7_relocates_34 (by decide) ?_
          obtain ⟨o35, hc35, h⟩ := az_bnd h
          refine az_callVi (w2 := az_cM g ad (va_up V 0 wV0)) (As := [.int y3, .int (0 : Int32)]) (rest := []) ⟨hx, hb, hml, hown, hts⟩ hl.1 (kX7_ofBlock l g ad (va_up V 0 wV0) y3 (0 : Int32) o35 hc35) (cwV 2 hts gX7_relocates_X7_ofBlock rfl rfl rfl (by decide +kernel) ⟨Nat.le_of_ble_eq_true rfl, Nat.le_of_ble_eq_true rfl⟩) rfl hK hP hD hS hA [0, 1, 2, 3] [] [0, 1, 2, 3] rfl rfl rfl rfl rfl (by decide) rfl rfl rfl 0 rfl rfl rfl (Nat.le_of_ble_eq_true rfl) dX7_relocates_35 ⟨Nat.zero_le _, Nat.zero_le _⟩ rfl (fun H locs hP hD hS => ?_)
          refine lv_iconst (v := (2 : Int32)) hx hb dX7_relocates_38 (by decide) ?_
          refine lv_icmp_eq (tgt := 45) hx hb dX7_relocates_39 (by decide) (fun c39 => ?_) (fun c39 => ?_)
          · replace h := az_pos c39 h
            refine lv_aload_n hx hb dX7_relocates_45 rfl (lv_at hl 0 rfl) ?_
            refine lv_iload_n hx hb dX7_relocates_46 rfl (lv_at hl 3 rfl) ?_
            obtain ⟨o47, hc47, h⟩ := az_bnd h
            refine az_callVv (w2 := az_cM g ad (va_up V 0 o47)) (As := [.int y3]) (rest := []) ⟨hx, hb, hml, hown, hts⟩ hl.1 (kX7_moves l g ad (va_up V 0 wV0) y3 o47 hc47) (cwV 1 hts gX7_relocates_X7_moves rfl rfl rfl (by decide +kernel) ⟨Nat.le_of_ble_eq_true rfl, Nat.le_of_ble_eq_true rfl⟩) rfl hK hP hD hS hA [0, 1, 2, 3] [] [0, 1, 2, 3] rfl rfl rfl rfl rfl (by decide) rfl rfl rfl 0 rfl rfl rfl (Nat.le_of_ble_eq_true rfl) dX7_relocates_47 ⟨Nat.zero_le _, Nat.zero_le _⟩ rfl (fun H locs hP hD hS => ?_)
            refine lv_iinc (v := y2 + (1 : Int32)) (lv' := [(2, .int (y2 + (1 : Int32))), (0, .ref (ad 0)), (1, .int x1), (3, .int y3)]) hx hb dX7_relocates_50 hl (k := 2) rfl (rfl) (by decide) rfl (fun ls hl => ?_)
            refine lv_iinc (v := y3 + (1 : Int32)) (lv' := [(3, .int (y3 + (1 : Int32))), (2, .int (y2 + (1 : Int32))), (0, .ref (ad 0)), (1, .int x1)]) hx hb dX7_relocates_53 hl (k := 3) rfl (rfl) (by decide) rfl (fun ls hl => ?_)
            refine lv_goto (tgt := 7) hx hb dX7_relocates_56 (by decide) ?_
            have hP : va_P g.1 az_cl (az_cM g ad (va_up V 0 o47)) _ := hP
            have hD : va_D A (az_cM g ad (va_up V 0 o47)) := hD
            exact ih o47 (y2 + (1 : Int32)) (y3 + (1 : Int32)) _ _ ls h hP hD hS (lv_sub hl [2, 3, 1, 0] rfl)
          · replace h := az_neg c39 h
            refine lv_goto (tgt := 53) hx hb dX7_relocates_42 (by decide) ?_
            refine lv_iinc (v := y3 + (1 : Int32)) (lv' := [(3, .int (y3 + (1 : Int32))), (0, .ref (ad 0)), (1, .int x1), (2, .int y2)]) hx hb dX7_relocates_53 hl (k := 3) rfl (rfl) (by decide) rfl (fun ls hl => ?_)
            refine lv_goto (tgt := 7) hx hb dX7_relocates_56 (by decide) ?_
            have hP : va_P g.1 az_cl (az_cM g ad (va_up V 0 wV0)) _ := hP
            have hD : va_D A (az_cM g ad (va_up V 0 wV0)) := hD
            exact ih wV0 y2 (y3 + (1 : Int32)) _ _ ls h hP hD hS (lv_sub hl [1, 2, 3, 0] rfl)
  refine lv_iconst (v := (0 : Int32)) hx hb dX7_relocates_0 (by decide) ?_
  refine lv_istore_n (lv' := [(2, .int (0 : Int32)), (0, .ref (ad 0)), (1, .int x1)]) hx hb dX7_relocates_1 rfl hl (by decide) rfl (fun ls hl => ?_)
  refine lv_bipush (v := (16 : Int32)) hx hb dX7_relocates_2 (by decide) ?_
  refine lv_iload_n hx hb dX7_relocates_4 rfl (lv_at hl 2 rfl) ?_
  refine lv_imul hx hb dX7_relocates_5 ?_
  refine lv_istore_n (lv' := [(3, .int ((16 : Int32) * x1)), (2, .int (0 : Int32)), (0, .ref (ad 0)), (1, .int x1)]) hx hb dX7_relocates_6 rfl hl (by decide) rfl (fun ls hl => ?_)
  have hP : va_P g.1 az_cl (az_cM g ad (va_up V 0 (V 0))) _ := hP
  have hD : va_D A (az_cM g ad (va_up V 0 (V 0))) := hD
  exact hL7 az_fuel (V 0) (0 : Int32) ((16 : Int32) * x1) _ _ ls h hP hD hS (lv_sub hl [2, 3, 1, 0] rfl)

def FX7_relocate (V : az_St) (x1 : Int32) : Option (Int32 × (Nat → Int32) × (Nat → Int32) × (Nat → Int32)) := (FX7_isSegment V x1).bind (fun o3 => if o3 = (0 : Int32) then (az_lt (upd (V 2) 1 (1 : Int32)) (fun u36 => if u36 1 ≤ (0 : Int32) then ((FX7_keeps (va_up V 2 u36)).bind (fun o49 => (FX7_relocates (va_up (va_up V 1 o49.1) 2 o49.2) x1).bind (fun o54 => some (o54.1, o54.2, o49.1, o49.2)))) else (some ((0 : Int32), (V 0), (V 1), u36)))) else ((FX7_ofSegment V x1 (0 : Int32)).bind (fun o16 => if o16 = (2 : Int32) then ((FX7_hasRoom V x1).bind (fun o25 => if o25 = (0 : Int32) then (az_lt (upd (V 2) 1 (2 : Int32)) (fun u36 => if u36 1 ≤ (0 : Int32) then ((FX7_keeps (va_up V 2 u36)).bind (fun o49 => (FX7_relocates (va_up (va_up V 1 o49.1) 2 o49.2) x1).bind (fun o54 => some (o54.1, o54.2, o49.1, o49.2)))) else (some ((0 : Int32), (V 0), (V 1), u36)))) else (az_lt (upd (V 2) 1 (0 : Int32)) (fun u36 => if u36 1 ≤ (0 : Int32) then ((FX7_keeps (va_up V 2 u36)).bind (fun o49 => (FX7_relocates (va_up (va_up V 1 o49.1) 2 o49.2) x1).bind (fun o54 => some (o54.1, o54.2, o49.1, o49.2)))) else (some ((0 : Int32), (V 0), (V 1), u36)))))) else (az_lt (upd (V 2) 1 (2 : Int32)) (fun u36 => if u36 1 ≤ (0 : Int32) then ((FX7_keeps (va_up V 2 u36)).bind (fun o49 => (FX7_relocates (va_up (va_up V 1 o49.1) 2 o49.2) x1).bind (fun o54 => some (o54.1, o54.2, o49.1, o49.2)))) else (some ((0 : Int32), (V 0), (V 1), u36)))))))
theorem inX7_relocate_RX7 : ∀ w ∈ wsX70, w ∈ wsX7_relocate := az_inr [81, 82, 83, 84, 85] (by decide +kernel)
set_option maxHeartbeats 4000000 in
set_option maxRecDepth 100000 in
theorem kX7_relocate (l : Launch) (g : az_G) (ad : Nat → Nat) (V : az_St) (x1 : Int32) (o : Int32 × (Nat → Int32) × (Nat → Int32) × (Nat → Int32)) (h : FX7_relocate V x1 = some o) : az_I l yX7_relocate wsX7_relocate ({ frames := 5, cells := 0, slots := 0, locals := 120 } : Room) [.ref (ad 0), .int x1] g (az_cM g ad V) o.1 (az_cM g ad (va_up (va_up (va_up V 0 o.2.1) 1 o.2.2.1) 2 o.2.2.2)) := by
  refine az_body (cc := cX7_relocate) (maxL := 2) (ret := (some .int)) (Qc := fun A => az_QI g (az_cM g ad (va_up (va_up (va_up V 0 o.2.1) 1 o.2.2.1) 2 o.2.2.2)) o.1 A) (by decide +kernel) rfl (Nat.le_of_ble_eq_true rfl) ?_
  intro p e s m args below meth c A hx hb hr hts hown hml hlocks hA hK hP hD hS ls hl
  have hl : lv_has ls 2 [(0, .ref (ad 0)), (1, .int x1)] := hl
  unfold FX7_relocate at h
  refine lv_aload_n hx hb dX7_relocate_0 rfl (lv_at hl 0 rfl) ?_
  refine lv_aload_n hx hb dX7_relocate_1 rfl (lv_at hl 0 rfl) ?_
  refine lv_iload_n hx hb dX7_relocate_2 rfl (lv_at hl 1 rfl) ?_
  obtain ⟨o3, hc3, h⟩ := az_bnd h
  refine az_callVi (w2 := az_cM g ad V) (As := [.int x1]) (rest := [.ref (ad 0)]) ⟨hx, hb, hml, hown, hts⟩ hl.1 (kX7_isSegment l g ad V x1 o3 hc3) (cwV 1 hts gX7_relocate_X7_isSegment rfl rfl rfl (by decide +kernel) ⟨Nat.le_of_ble_eq_true rfl, Nat.le_of_ble_eq_true rfl⟩) rfl hK hP hD hS hA [0, 1, 2, 3] [] [0, 1, 2, 3] rfl rfl rfl rfl rfl (by decide) rfl rfl rfl 0 rfl rfl rfl (Nat.le_of_ble_eq_true rfl) dX7_relocate_3 ⟨Nat.zero_le _, Nat.zero_le _⟩ rfl (fun H locs hP hD hS => ?_)
  refine lv_if_ne (tgt := 13) hx hb dX7_relocate_6 (by decide) (fun c6 => ?_) (fun c6 => ?_)
  · replace h := az_neg c6 h
    refine lv_aload_n hx hb dX7_relocate_13 rfl (lv_at hl 0 rfl) ?_
    refine lv_iload_n hx hb dX7_relocate_14 rfl (lv_at hl 1 rfl) ?_
    refine lv_iconst (v := (0 : Int32)) hx hb dX7_relocate_15 (by decide) ?_
    obtain ⟨o16, hc16, h⟩ := az_bnd h
    refine az_callVi (w2 := az_cM g ad V) (As := [.int x1, .int (0 : Int32)]) (rest := [.ref (ad 0)]) ⟨hx, hb, hml, hown, hts⟩ hl.1 (kX7_ofSegment l g ad V x1 (0 : Int32) o16 hc16) (cwV 2 hts gX7_relocate_X7_ofSegment rfl rfl rfl (by decide +kernel) ⟨Nat.le_of_ble_eq_true rfl, Nat.le_of_ble_eq_true rfl⟩) rfl hK hP hD hS hA [0, 1, 2, 3] [] [0, 1, 2, 3] rfl rfl rfl rfl rfl (by decide) rfl rfl rfl 0 rfl rfl rfl (Nat.le_of_ble_eq_true rfl) dX7_relocate_16 ⟨Nat.zero_le _, Nat.zero_le _⟩ rfl (fun H locs hP hD hS => ?_)
    refine lv_iconst (v := (2 : Int32)) hx hb dX7_relocate_19 (by decide) ?_
    refine lv_icmp_ne (tgt := 31) hx hb dX7_relocate_20 (by decide) (fun c20 => ?_) (fun c20 => ?_)
    · replace h := az_neg c20 h
      refine lv_iconst (v := (2 : Int32)) hx hb dX7_relocate_31 (by decide) ?_
      refine lv_goto (tgt := 36) hx hb dX7_relocate_32 (by decide) ?_
      refine va_put (D := g.1) (ci := 7) (v := .int (2 : Int32)) (ty := .int) (C := RX7) (T := TX7) (N := 5) hx hb hts inX7_relocate_RX7 tyX7 tyX7_ok nmX7 hown hK hP hD hS 0 rfl rfl 3 (Nat.le_of_ble_eq_true rfl) (hts _ (List.mem_of_getElem? (i := 1) rfl)) (fun _ h9 => h9) rfl (by decide +kernel) rfl rfl (Nat.le_of_ble_eq_true rfl) dX7_relocate_36 (fun H locs hP hD hS => ?_)
      obtain ⟨u36, e36⟩ : ∃ w : Nat → Int32, w = upd (V 2) 1 (2 : Int32) := ⟨_, rfl⟩
      have hP : va_P g.1 az_cl (az_cM g ad (va_up V 2 u36)) H := by rw [e36]; exact hP
      have hD : va_D A (az_cM g ad (va_up V 2 u36)) := by rw [e36]; exact hD
      replace h := az_let e36 h
      refine lv_aload_n hx hb dX7_relocate_39 rfl (lv_at hl 0 rfl) ?_
      refine va_get (D := g.1) (ci := 7) (v := .int (u36 1)) (C := RX7) (T := TX7) (N := 5) hx hb hts inX7_relocate_RX7 hown hK hP 0 rfl rfl 3 (Nat.le_of_ble_eq_true rfl) (hts _ (List.mem_of_getElem? (i := 1) rfl)) (fun _ h9 => h9) rfl dX7_relocate_40 ?_
      refine lv_if_le (tgt := 48) hx hb dX7_relocate_43 (by decide) (fun c43 => ?_) (fun c43 => ?_)
      · replace h := az_pos c43 h
        refine lv_aload_n hx hb dX7_relocate_48 rfl (lv_at hl 0 rfl) ?_
        obtain ⟨o49, hc49, h⟩ := az_bnd h
        refine az_callVv (w2 := az_cM g ad (va_up (va_up V 1 o49.1) 2 o49.2)) (As := []) (rest := []) ⟨hx, hb, hml, hown, hts⟩ hl.1 (kX7_keeps l g ad (va_up V 2 u36) o49 hc49) (cwV 0 hts gX7_relocate_X7_keeps rfl rfl rfl (by decide +kernel) ⟨Nat.le_of_ble_eq_true rfl, Nat.le_of_ble_eq_true rfl⟩) rfl hK hP hD hS hA [0, 1, 2, 3] [] [0, 1, 2, 3] rfl rfl rfl rfl rfl (by decide) rfl rfl rfl 0 rfl rfl rfl (Nat.le_of_ble_eq_true rfl) dX7_relocate_49 ⟨Nat.zero_le _, Nat.zero_le _⟩ rfl (fun H locs hP hD hS => ?_)
        refine lv_aload_n hx hb dX7_relocate_52 rfl (lv_at hl 0 rfl) ?_
        refine lv_iload_n hx hb dX7_relocate_53 rfl (lv_at hl 1 rfl) ?_
        obtain ⟨o54, hc54, h⟩ := az_bnd h
        refine az_callVi (w2 := az_cM g ad (va_up (va_up (va_up V 0 o54.2) 1 o49.1) 2 o49.2)) (As := [.int x1]) (rest := []) ⟨hx, hb, hml, hown, hts⟩ hl.1 (kX7_relocates l g ad (va_up (va_up V 1 o49.1) 2 o49.2) x1 o54 hc54) (cwV 1 hts gX7_relocate_X7_relocates rfl rfl rfl (by decide +kernel) ⟨Nat.le_of_ble_eq_true rfl, Nat.le_of_ble_eq_true rfl⟩) rfl hK hP hD hS hA [0, 1, 2, 3] [] [0, 1, 2, 3] rfl rfl rfl rfl rfl (by decide) rfl rfl rfl 0 rfl rfl rfl (Nat.le_of_ble_eq_true rfl) dX7_relocate_54 ⟨Nat.zero_le _, Nat.zero_le _⟩ rfl (fun H locs hP hD hS => ?_)
        have hP : va_P g.1 az_cl (az_cM g ad (va_up (va_up (va_up V 0 o54.2) 1 o49.1) 2 o49.2)) _ := hP
        have hD : va_D A (az_cM g ad (va_up (va_up (va_up V 0 o54.2) 1 o49.1) 2 o49.2)) := hD
        rw [← Option.some.inj h]
        exact az_iret hx hb hr hlocks hK hP hD hS dX7_relocate_57
      · replace h := az_neg c43 h
        refine lv_iconst (v := (0 : Int32)) hx hb dX7_relocate_46 (by decide) ?_
        have hP : va_P g.1 az_cl (az_cM g ad (va_up (va_up (va_up V 0 (V 0)) 1 (V 1)) 2 u36)) _ := hP
        have hD : va_D A (az_cM g ad (va_up (va_up (va_up V 0 (V 0)) 1 (V 1)) 2 u36)) := hD
        rw [← Option.some.inj h]
        exact az_iret hx hb hr hlocks hK hP hD hS dX7_relocate_47
    · replace h := az_pos c20 h
      refine lv_aload_n hx hb dX7_relocate_23 rfl (lv_at hl 0 rfl) ?_
      refine lv_iload_n hx hb dX7_relocate_24 rfl (lv_at hl 1 rfl) ?_
      obtain ⟨o25, hc25, h⟩ := az_bnd h
      refine az_callVi (w2 := az_cM g ad V) (As := [.int x1]) (rest := [.ref (ad 0)]) ⟨hx, hb, hml, hown, hts⟩ hl.1 (kX7_hasRoom l g ad V x1 o25 hc25) (cwV 1 hts gX7_relocate_X7_hasRoom rfl rfl rfl (by decide +kernel) ⟨Nat.le_of_ble_eq_true rfl, Nat.le_of_ble_eq_true rfl⟩) rfl hK hP hD hS hA [0, 1, 2, 3] [] [0, 1, 2, 3] rfl rfl rfl rfl rfl (by decide) rfl rfl rfl 0 rfl rfl rfl (Nat.le_of_ble_eq_true rfl) dX7_relocate_25 ⟨Nat.zero_le _, Nat.zero_le _⟩ rfl (fun H locs hP hD hS => ?_)
      refine lv_if_ne (tgt := 35) hx hb dX7_relocate_28 (by decide) (fun c28 => ?_) (fun c28 => ?_)
      · replace h := az_neg c28 h
        refine lv_iconst (v := (0 : Int32)) hx hb dX7_relocate_35 (by decide) ?_
        refine va_put (D := g.1) (ci := 7) (v := .int (0 : Int32)) (ty := .int) (C := RX7) (T := TX7) (N := 5) hx hb hts inX7_relocate_RX7 tyX7 tyX7_ok nmX7 hown hK hP hD hS 0 rfl rfl 3 (Nat.le_of_ble_eq_true rfl) (hts _ (List.mem_of_getElem? (i := 1) rfl)) (fun _ h9 => h9) rfl (by decide +kernel) rfl rfl (Nat.le_of_ble_eq_true rfl) dX7_relocate_36 (fun H locs hP hD hS => ?_)
        obtain ⟨u36, e36⟩ : ∃ w : Nat → Int32, w = upd (V 2) 1 (0 : Int32) := ⟨_, rfl⟩
        have hP : va_P g.1 az_cl (az_cM g ad (va_up V 2 u36)) H := by rw [e36]; exact hP
        have hD : va_D A (az_cM g ad (va_up V 2 u36)) := by rw [e36]; exact hD
        replace h := az_let e36 h
        refine lv_aload_n hx hb dX7_relocate_39 rfl (lv_at hl 0 rfl) ?_
        refine va_get (D := g.1) (ci := 7) (v := .int (u36 1)) (C := RX7) (T := TX7) (N := 5) hx hb hts inX7_relocate_RX7 hown hK hP 0 rfl rfl 3 (Nat.le_of_ble_eq_true rfl) (hts _ (List.mem_of_getElem? (i := 1) rfl)) (fun _ h9 => h9) rfl dX7_relocate_40 ?_
        refine lv_if_le (tgt := 48) hx hb dX7_relocate_43 (by decide) (fun c43 => ?_) (fun c43 => ?_)
        · replace h := az_pos c43 h
          refine lv_aload_n hx hb dX7_relocate_48 rfl (lv_at hl 0 rfl) ?_
          obtain ⟨o49, hc49, h⟩ := az_bnd h
          refine az_callVv (w2 := az_cM g ad (va_up (va_up V 1 o49.1) 2 o49.2)) (As := []) (rest := []) ⟨hx, hb, hml, hown, hts⟩ hl.1 (kX7_keeps l g ad (va_up V 2 u36) o49 hc49) (cwV 0 hts gX7_relocate_X7_keeps rfl rfl rfl (by decide +kernel) ⟨Nat.le_of_ble_eq_true rfl, Nat.le_of_ble_eq_true rfl⟩) rfl hK hP hD hS hA [0, 1, 2, 3] [] [0, 1, 2, 3] rfl rfl rfl rfl rfl (by decide) rfl rfl rfl 0 rfl rfl rfl (Nat.le_of_ble_eq_true rfl) dX7_relocate_49 ⟨Nat.zero_le _, Nat.zero_le _⟩ rfl (fun H locs hP hD hS => ?_)
          refine lv_aload_n hx hb dX7_relocate_52 rfl (lv_at hl 0 rfl) ?_
          refine lv_iload_n hx hb dX7_relocate_53 rfl (lv_at hl 1 rfl) ?_
          obtain ⟨o54, hc54, h⟩ := az_bnd h
          refine az_callVi (w2 := az_cM g ad (va_up (va_up (va_up V 0 o54.2) 1 o49.1) 2 o49.2)) (As := [.int x1]) (rest := []) ⟨hx, hb, hml, hown, hts⟩ hl.1 (kX7_relocates l g ad (va_up (va_up V 1 o49.1) 2 o49.2) x1 o54 hc54) (cwV 1 hts gX7_relocate_X7_relocates rfl rfl rfl (by decide +kernel) ⟨Nat.le_of_ble_eq_true rfl, Nat.le_of_ble_eq_true rfl⟩) rfl hK hP hD hS hA [0, 1, 2, 3] [] [0, 1, 2, 3] rfl rfl rfl rfl rfl (by decide) rfl rfl rfl 0 rfl rfl rfl (Nat.le_of_ble_eq_true rfl) dX7_relocate_54 ⟨Nat.zero_le _, Nat.zero_le _⟩ rfl (fun H locs hP hD hS => ?_)
          have hP : va_P g.1 az_cl (az_cM g ad (va_up (va_up (va_up V 0 o54.2) 1 o49.1) 2 o49.2)) _ := hP
          have hD : va_D A (az_cM g ad (va_up (va_up (va_up V 0 o54.2) 1 o49.1) 2 o49.2)) := hD
          rw [← Option.some.inj h]
          exact az_iret hx hb hr hlocks hK hP hD hS dX7_relocate_57
        · replace h := az_neg c43 h
          refine lv_iconst (v := (0 : Int32)) hx hb dX7_relocate_46 (by decide) ?_
          have hP : va_P g.1 az_cl (az_cM g ad (va_up (va_up (va_up V 0 (V 0)) 1 (V 1)) 2 u36)) _ := hP
          have hD : va_D A (az_cM g ad (va_up (va_up (va_up V 0 (V 0)) 1 (V 1)) 2 u36)) := hD
          rw [← Option.some.inj h]
          exact az_iret hx hb hr hlocks hK hP hD hS dX7_relocate_47
      · replace h := az_pos c28 h
        refine lv_iconst (v := (2 : Int32)) hx hb dX7_relocate_31 (by decide) ?_
        refine lv_goto (tgt := 36) hx hb dX7_relocate_32 (by decide) ?_
        refine va_put (D := g.1) (ci := 7) (v := .int (2 : Int32)) (ty := .int) (C := RX7) (T := TX7) (N := 5) hx hb hts inX7_relocate_RX7 tyX7 tyX7_ok nmX7 hown hK hP hD hS 0 rfl rfl 3 (Nat.le_of_ble_eq_true rfl) (hts _ (List.mem_of_getElem? (i := 1) rfl)) (fun _ h9 => h9) rfl (by decide +kernel) rfl rfl (Nat.le_of_ble_eq_true rfl) dX7_relocate_36 (fun H locs hP hD hS => ?_)
        obtain ⟨u36, e36⟩ : ∃ w : Nat → Int32, w = upd (V 2) 1 (2 : Int32) := ⟨_, rfl⟩
        have hP : va_P g.1 az_cl (az_cM g ad (va_up V 2 u36)) H := by rw [e36]; exact hP
        have hD : va_D A (az_cM g ad (va_up V 2 u36)) := by rw [e36]; exact hD
        replace h := az_let e36 h
        refine lv_aload_n hx hb dX7_relocate_39 rfl (lv_at hl 0 rfl) ?_
        refine va_get (D := g.1) (ci := 7) (v := .int (u36 1)) (C := RX7) (T := TX7) (N := 5) hx hb hts inX7_relocate_RX7 hown hK hP 0 rfl rfl 3 (Nat.le_of_ble_eq_true rfl) (hts _ (List.mem_of_getElem? (i := 1) rfl)) (fun _ h9 => h9) rfl dX7_relocate_40 ?_
        refine lv_if_le (tgt := 48) hx hb dX7_relocate_43 (by decide) (fun c43 => ?_) (fun c43 => ?_)
        · replace h := az_pos c43 h
          refine lv_aload_n hx hb dX7_relocate_48 rfl (lv_at hl 0 rfl) ?_
          obtain ⟨o49, hc49, h⟩ := az_bnd h
          refine az_callVv (w2 := az_cM g ad (va_up (va_up V 1 o49.1) 2 o49.2)) (As := []) (rest := []) ⟨hx, hb, hml, hown, hts⟩ hl.1 (kX7_keeps l g ad (va_up V 2 u36) o49 hc49) (cwV 0 hts gX7_relocate_X7_keeps rfl rfl rfl (by decide +kernel) ⟨Nat.le_of_ble_eq_true rfl, Nat.le_of_ble_eq_true rfl⟩) rfl hK hP hD hS hA [0, 1, 2, 3] [] [0, 1, 2, 3] rfl rfl rfl rfl rfl (by decide) rfl rfl rfl 0 rfl rfl rfl (Nat.le_of_ble_eq_true rfl) dX7_relocate_49 ⟨Nat.zero_le _, Nat.zero_le _⟩ rfl (fun H locs hP hD hS => ?_)
          refine lv_aload_n hx hb dX7_relocate_52 rfl (lv_at hl 0 rfl) ?_
          refine lv_iload_n hx hb dX7_relocate_53 rfl (lv_at hl 1 rfl) ?_
          obtain ⟨o54, hc54, h⟩ := az_bnd h
          refine az_callVi (w2 := az_cM g ad (va_up (va_up (va_up V 0 o54.2) 1 o49.1) 2 o49.2)) (As := [.int x1]) (rest := []) ⟨hx, hb, hml, hown, hts⟩ hl.1 (kX7_relocates l g ad (va_up (va_up V 1 o49.1) 2 o49.2) x1 o54 hc54) (cwV 1 hts gX7_relocate_X7_relocates rfl rfl rfl (by decide +kernel) ⟨Nat.le_of_ble_eq_true rfl, Nat.le_of_ble_eq_true rfl⟩) rfl hK hP hD hS hA [0, 1, 2, 3] [] [0, 1, 2, 3] rfl rfl rfl rfl rfl (by decide) rfl rfl rfl 0 rfl rfl rfl (Nat.le_of_ble_eq_true rfl) dX7_relocate_54 ⟨Nat.zero_le _, Nat.zero_le _⟩ rfl (fun H locs hP hD hS => ?_)
          have hP : va_P g.1 az_cl (az_cM g ad (va_up (va_up (va_up V 0 o54.2) 1 o49.1) 2 o49.2)) _ := hP
          have hD : va_D A (az_cM g ad (va_up (va_up (va_up V 0 o54.2) 1 o49.1) 2 o49.2)) := hD
          rw [← Option.some.inj h]
          exact az_iret hx hb hr hlocks hK hP hD hS dX7_relocate_57
        · replace h := az_neg c43 h
          refine lv_iconst (v := (0 : Int32)) hx hb dX7_relocate_46 (by decide) ?_
          have hP : va_P g.1 az_cl (az_cM g ad (va_up (va_up (va_up V 0 (V 0)) 1 (V 1)) 2 u36)) _ := hP
          have hD : va_D A (az_cM g ad (va_up (va_up (va_up V 0 (V 0)) 1 (V 1)) 2 u36)) := hD
          rw [← Option.some.inj h]
          exact az_iret hx hb hr hlocks hK hP hD hS dX7_relocate_47
  · replace h := az_pos c6 h
    refine lv_iconst (v := (1 : Int32)) hx hb dX7_relocate_9 (by decide) ?_
    refine lv_goto (tgt := 36) hx hb dX7_relocate_10 (by decide) ?_
    refine va_put (D := g.1) (ci := 7) (v := .int (1 : Int32)) (ty := .int) (C := RX7) (T := TX7) (N := 5) hx hb hts inX7_relocate_RX7 tyX7 tyX7_ok nmX7 hown hK hP hD hS 0 rfl rfl 3 (Nat.le_of_ble_eq_true rfl) (hts _ (List.mem_of_getElem? (i := 1) rfl)) (fun _ h9 => h9) rfl (by decide +kernel) rfl rfl (Nat.le_of_ble_eq_true rfl) dX7_relocate_36 (fun H locs hP hD hS => ?_)
    obtain ⟨u36, e36⟩ : ∃ w : Nat → Int32, w = upd (V 2) 1 (1 : Int32) := ⟨_, rfl⟩
    have hP : va_P g.1 az_cl (az_cM g ad (va_up V 2 u36)) H := by rw [e36]; exact hP
    have hD : va_D A (az_cM g ad (va_up V 2 u36)) := by rw [e36]; exact hD
    replace h := az_let e36 h
    refine lv_aload_n hx hb dX7_relocate_39 rfl (lv_at hl 0 rfl) ?_
    refine va_get (D := g.1) (ci := 7) (v := .int (u36 1)) (C := RX7) (T := TX7) (N := 5) hx hb hts inX7_relocate_RX7 hown hK hP 0 rfl rfl 3 (Nat.le_of_ble_eq_true rfl) (hts _ (List.mem_of_getElem? (i := 1) rfl)) (fun _ h9 => h9) rfl dX7_relocate_40 ?_
    refine lv_if_le (tgt := 48) hx hb dX7_relocate_43 (by decide) (fun c43 => ?_) (fun c43 => ?_)
    · replace h := az_pos c43 h
      refine lv_aload_n hx hb dX7_relocate_48 rfl (lv_at hl 0 rfl) ?_
      obtain ⟨o49, hc49, h⟩ := az_bnd h
      refine az_callVv (w2 := az_cM g ad (va_up (va_up V 1 o49.1) 2 o49.2)) (As := []) (rest := []) ⟨hx, hb, hml, hown, hts⟩ hl.1 (kX7_keeps l g ad (va_up V 2 u36) o49 hc49) (cwV 0 hts gX7_relocate_X7_keeps rfl rfl rfl (by decide +kernel) ⟨Nat.le_of_ble_eq_true rfl, Nat.le_of_ble_eq_true rfl⟩) rfl hK hP hD hS hA [0, 1, 2, 3] [] [0, 1, 2, 3] rfl rfl rfl rfl rfl (by decide) rfl rfl rfl 0 rfl rfl rfl (Nat.le_of_ble_eq_true rfl) dX7_relocate_49 ⟨Nat.zero_le _, Nat.zero_le _⟩ rfl (fun H locs hP hD hS => ?_)
      refine lv_aload_n hx hb dX7_relocate_52 rfl (lv_at hl 0 rfl) ?_
      refine lv_iload_n hx hb dX7_relocate_53 rfl (lv_at hl 1 rfl) ?_
      obtain ⟨o54, hc54, h⟩ := az_bnd h
      refine az_callVi (w2 := az_cM g ad (va_up (va_up (va_up V 0 o54.2) 1 o49.1) 2 o49.2)) (As := [.int x1]) (rest := []) ⟨hx, hb, hml, hown, hts⟩ hl.1 (kX7_relocates l g ad (va_up (va_up V 1 o49.1) 2 o49.2) x1 o54 hc54) (cwV 1 hts gX7_relocate_X7_relocates rfl rfl rfl (by decide +kernel) ⟨Nat.le_of_ble_eq_true rfl, Nat.le_of_ble_eq_true rfl⟩) rfl hK hP hD hS hA [0, 1, 2, 3] [] [0, 1, 2, 3] rfl rfl rfl rfl rfl (by decide) rfl rfl rfl 0 rfl rfl rfl (Nat.le_of_ble_eq_true rfl) dX7_relocate_54 ⟨Nat.zero_le _, Nat.zero_le _⟩ rfl (fun H locs hP hD hS => ?_)
      have hP : va_P g.1 az_cl (az_cM g ad (va_up (va_up (va_up V 0 o54.2) 1 o49.1) 2 o49.2)) _ := hP
      have hD : va_D A (az_cM g ad (va_up (va_up (va_up V 0 o54.2) 1 o49.1) 2 o49.2)) := hD
      rw [← Option.some.inj h]
      exact az_iret hx hb hr hlocks hK hP hD hS dX7_relocate_57
    · replace h := az_neg c43 h
      refine lv_iconst (v := (0 : Int32)) hx hb dX7_relocate_46 (by decide) ?_
      have hP : va_P g.1 az_cl (az_cM g ad (va_up (va_up (va_up V 0 (V 0)) 1 (V 1)) 2 u36)) _ := hP
      have hD : va_D A (az_cM g ad (va_up (va_up (va_up V 0 (V 0)) 1 (V 1)) 2 u36)) := hD
      rw [← Option.some.inj h]
      exact az_iret hx hb hr hlocks hK hP hD hS dX7_relocate_47

def FX7_isBetter (V : az_St) (x1 : Int32) (x2 : Int32) (x3 : Int32) : Option (Int32) := if x3 = (0 : Int32) then ((FX7_useOf V x1).bind (fun o6 => (FX7_useOf V x2).bind (fun o11 => if o11 ≤ o6 then (some ((0 : Int32))) else (some ((1 : Int32)))))) else (if x3 = (2 : Int32) then ((FX7_ageOf V x1).bind (fun o30 => (FX7_ageOf V x2).bind (fun o35 => if o30 ≤ o35 then (some ((0 : Int32))) else (some ((1 : Int32)))))) else ((FX7_useOf V x1).bind (fun o60 => (FX7_ageOf V x1).bind (fun o67 => (FX7_useOf V x2).bind (fun o76 => (FX7_useOf V x2).bind (fun o86 => (FX7_ageOf V x2).bind (fun o93 => (FX7_useOf V x1).bind (fun o102 => if lg_cmp ((((((V 0) (1 : Int32).toNatClampNeg).toInt64) - o60.toInt64) * o67.toInt64) * ((((V 0) (1 : Int32).toNatClampNeg).toInt64) + o76.toInt64)) ((((((V 0) (1 : Int32).toNatClampNeg).toInt64) - o86.toInt64) * o93.toInt64) * ((((V 0) (1 : Int32).toNatClampNeg).toInt64) + o102.toInt64)) ≤ (0 : Int32) then (some ((0 : Int32))) else (some ((1 : Int32)))))))))))
theorem inX7_isBetter_RX7 : ∀ w ∈ wsX70, w ∈ wsX7_isBetter := az_inr [23, 24, 25, 26, 27] (by decide +kernel)
set_option maxHeartbeats 4000000 in
set_option maxRecDepth 100000 in
theorem kX7_isBetter (l : Launch) (g : az_G) (ad : Nat → Nat) (V : az_St) (x1 : Int32) (x2 : Int32) (x3 : Int32) (o : Int32) (h : FX7_isBetter V x1 x2 x3 = some o) : az_I l yX7_isBetter wsX7_isBetter ({ frames := 3, cells := 0, slots := 0, locals := 67 } : Room) [.ref (ad 0), .int x1, .int x2, .int x3] g (az_cM g ad V) o (az_cM g ad V) := by
  refine az_body (cc := cX7_isBetter) (maxL := 6) (ret := (some .boolean)) (Qc := fun A => az_QI g (az_cM g ad V) o A) (by decide +kernel) rfl (Nat.le_of_ble_eq_true rfl) ?_
  intro p e s m args below meth c A hx hb hr hts hown hml hlocks hA hK hP hD hS ls hl
  have hl : lv_has ls 6 [(0, .ref (ad 0)), (1, .int x1), (2, .int x2), (3, .int x3)] := hl
  unfold FX7_isBetter at h
  refine lv_iload_n hx hb dX7_isBetter_0 rfl (lv_at hl 3 rfl) ?_
  refine lv_if_ne (tgt := 23) hx hb dX7_isBetter_1 (by decide) (fun c1 => ?_) (fun c1 => ?_)
  · replace h := az_neg c1 h
    refine lv_iload_n hx hb dX7_isBetter_23 rfl (lv_at hl 3 rfl) ?_
    refine lv_iconst (v := (2 : Int32)) hx hb dX7_isBetter_24 (by decide) ?_
    refine lv_icmp_ne (tgt := 47) hx hb dX7_isBetter_25 (by decide) (fun c25 => ?_) (fun c25 => ?_)
    · replace h := az_neg c25 h
      refine lv_aload_n hx hb dX7_isBetter_47 rfl (lv_at hl 0 rfl) ?_
      refine va_get (D := g.1) (ci := 7) (v := .ref (ad 1)) (C := RX7) (T := TX7) (N := 5) hx hb hts inX7_isBetter_RX7 hown hK hP 0 rfl rfl 0 (Nat.le_of_ble_eq_true rfl) (hts _ (List.mem_of_getElem? (i := 1) rfl)) (fun _ h9 => h9) rfl dX7_isBetter_48 ?_
      refine lv_iconst (v := (1 : Int32)) hx hb dX7_isBetter_51 (by decide) ?_
      refine va_iald (D := g.1) (f := (V 0)) hx hb hK hP 1 0 rfl rfl (az_vin (by decide +kernel)) dX7_isBetter_52 ?_
      refine lv_i2l (v := ((V 0) (1 : Int32).toNatClampNeg).toInt64) hx hb dX7_isBetter_53 rfl ?_
      refine lv_lstore (lv' := [(4, .long (((V 0) (1 : Int32).toNatClampNeg).toInt64)), (0, .ref (ad 0)), (1, .int x1), (2, .int x2), (3, .int x3)]) hx hb dX7_isBetter_54 hl (by decide) rfl (fun ls hl => ?_)
      refine lv_lload hx hb dX7_isBetter_56 (lv_at hl 0 rfl) ?_
      refine lv_aload_n hx hb dX7_isBetter_58 rfl (lv_at hl 1 rfl) ?_
      refine lv_iload_n hx hb dX7_isBetter_59 rfl (lv_at hl 2 rfl) ?_
      obtain ⟨o60, hc60, h⟩ := az_bnd h
      refine az_callVi (w2 := az_cM g ad V) (As := [.int x1]) (rest := [.long (((V 0) (1 : Int32).toNatClampNeg).toInt64)]) ⟨hx, hb, hml, hown, hts⟩ hl.1 (kX7_useOf l g ad V x1 o60 hc60) (cwV 1 hts gX7_isBetter_X7_useOf rfl rfl rfl (by decide +kernel) ⟨Nat.le_of_ble_eq_true rfl, Nat.le_of_ble_eq_true rfl⟩) rfl hK hP hD hS hA [0, 1, 2, 3] [] [0, 1, 2, 3] rfl rfl rfl rfl rfl (by decide) rfl rfl rfl 0 rfl rfl rfl (Nat.le_of_ble_eq_true rfl) dX7_isBetter_60 ⟨Nat.zero_le _, Nat.zero_le _⟩ rfl (fun H locs hP hD hS => ?_)
      refine lv_i2l (v := o60.toInt64) hx hb dX7_isBetter_63 rfl ?_
      refine lv_lsub hx hb dX7_isBetter_64 ?_
      refine lv_aload_n hx hb dX7_isBetter_65 rfl (lv_at hl 1 rfl) ?_
      refine lv_iload_n hx hb dX7_isBetter_66 rfl (lv_at hl 2 rfl) ?_
      obtain ⟨o67, hc67, h⟩ := az_bnd h
      refine az_callVi (w2 := az_cM g ad V) (As := [.int x1]) (rest := [.long ((((V 0) (1 : Int32).toNatClampNeg).toInt64) - o60.toInt64)]) ⟨hx, hb, hml, hown, hts⟩ hl.1 (kX7_ageOf l g ad V x1 o67 hc67) (cwV 1 hts gX7_isBetter_X7_ageOf rfl rfl rfl (by decide +kernel) ⟨Nat.le_of_ble_eq_true rfl, Nat.le_of_ble_eq_true rfl⟩) rfl hK hP hD hS hA [0, 1, 2, 3] [] [0, 1, 2, 3] rfl rfl rfl rfl rfl (by decide) rfl rfl rfl 0 rfl rfl rfl (Nat.le_of_ble_eq_true rfl) dX7_isBetter_67 ⟨Nat.zero_le _, Nat.zero_le _⟩ rfl (fun H locs hP hD hS => ?_)
      refine lv_i2l (v := o67.toInt64) hx hb dX7_isBetter_70 rfl ?_
      refine lv_lmul hx hb dX7_isBetter_71 ?_
      refine lv_lload hx hb dX7_isBetter_72 (lv_at hl 0 rfl) ?_
      refine lv_aload_n hx hb dX7_isBetter_74 rfl (lv_at hl 1 rfl) ?_
      refine lv_iload_n hx hb dX7_isBetter_75 rfl (lv_at hl 3 rfl) ?_
      obtain ⟨o76, hc76, h⟩ := az_bnd h
      refine az_callVi (w2 := az_cM g ad V) (As := [.int x2]) (rest := [.long (((V 0) (1 : Int32).toNatClampNeg).toInt64), .long (((((V 0) (1 : Int32).toNatClampNeg).toInt64) - o60.toInt64) * o67.toInt64)]) ⟨hx, hb, hml, hown, hts⟩ hl.1 (kX7_useOf l g ad V x2 o76 hc76) (cwV 1 hts gX7_isBetter_X7_useOf rfl rfl rfl (by decide +kernel) ⟨Nat.le_of_ble_eq_true rfl, Nat.le_of_ble_eq_true rfl⟩) rfl hK hP hD hS hA [0, 1, 2, 3] [] [0, 1, 2, 3] rfl rfl rfl rfl rfl (by decide) rfl rfl rfl 0 rfl rfl rfl (Nat.le_of_ble_eq_true rfl) dX7_isBetter_76 ⟨Nat.zero_le _, Nat.zero_le _⟩ rfl (fun H locs hP hD hS => ?_)
      refine lv_i2l (v := o76.toInt64) hx hb dX7_isBetter_79 rfl ?_
      refine lv_ladd hx hb dX7_isBetter_80 ?_
      refine lv_lmul hx hb dX7_isBetter_81 ?_
      refine lv_lload hx hb dX7_isBetter_82 (lv_at hl 0 rfl) ?_
      refine lv_aload_n hx hb dX7_isBetter_84 rfl (lv_at hl 1 rfl) ?_
      refine lv_iload_n hx hb dX7_isBetter_85 rfl (lv_at hl 3 rfl) ?_
      obtain ⟨o86, hc86, h⟩ := az_bnd h
      refine az_callVi (w2 := az_cM g ad V) (As := [.int x2]) (rest := [.long (((V 0) (1 : Int32).toNatClampNeg).toInt64), .long ((((((V 0) (1 : Int32).toNatClampNeg).toInt64) - o60.toInt64) * o67.toInt64) * ((((V 0) (1 : Int32).toNatClampNeg).toInt64) + o76.toInt64))]) ⟨hx, hb, hml, hown, hts⟩ hl.1 (kX7_useOf l g ad V x2 o86 hc86) (cwV 1 hts gX7_isBetter_X7_useOf rfl rfl rfl (by decide +kernel) ⟨Nat.le_of_ble_eq_true rfl, Nat.le_of_ble_eq_true rfl⟩) rfl hK hP hD hS hA [0, 1, 2, 3] [] [0, 1, 2, 3] rfl rfl rfl rfl rfl (by decide) rfl rfl rfl 0 rfl rfl rfl (Nat.le_of_ble_eq_true rfl) dX7_isBetter_86 ⟨Nat.zero_le _, Nat.zero_le _⟩ rfl (fun H locs hP hD hS => ?_)
      refine lv_i2l (v := o86.toInt64) hx hb dX7_isBetter_89 rfl ?_
      refine lv_lsub hx hb dX7_isBetter_90 ?_
      refine lv_aload_n hx hb dX7_isBetter_91 rfl (lv_at hl 1 rfl) ?_
      refine lv_iload_n hx hb dX7_isBetter_92 rfl (lv_at hl 3 rfl) ?_
      obtain ⟨o93, hc93, h⟩ := az_bnd h
      refine az_callVi (w2 := az_cM g ad V) (As := [.int x2]) (rest := [.long ((((V 0) (1 : Int32).toNatClampNeg).toInt64) - o86.toInt64), .long ((((((V 0) (1 : Int32).toNatClampNeg).toInt64) - o60.toInt64) * o67.toInt64) * ((((V 0) (1 : Int32).toNatClampNeg).toInt64) + o76.toInt64))]) ⟨hx, hb, hml, hown, hts⟩ hl.1 (kX7_ageOf l g ad V x2 o93 hc93) (cwV 1 hts gX7_isBetter_X7_ageOf rfl rfl rfl (by decide +kernel) ⟨Nat.le_of_ble_eq_true rfl, Nat.le_of_ble_eq_true rfl⟩) rfl hK hP hD hS hA [0, 1, 2, 3] [] [0, 1, 2, 3] rfl rfl rfl rfl rfl (by decide) rfl rfl rfl 0 rfl rfl rfl (Nat.le_of_ble_eq_true rfl) dX7_isBetter_93 ⟨Nat.zero_le _, Nat.zero_le _⟩ rfl (fun H locs hP hD hS => ?_)
      refine lv_i2l (v := o93.toInt64) hx hb dX7_isBetter_96 rfl ?_
      refine lv_lmul hx hb dX7_isBetter_97 ?_
      refine lv_lload hx hb dX7_isBetter_98 (lv_at hl 0 rfl) ?_
      refine lv_aload_n hx hb dX7_isBetter_100 rfl (lv_at hl 1 rfl) ?_
      refine lv_iload_n hx hb dX7_isBetter_101 rfl (lv_at hl 2 rfl) ?_
      obtain ⟨o102, hc102, h⟩ := az_bnd h
      refine az_callVi (w2 := az_cM g ad V) (As := [.int x1]) (rest := [.long (((V 0) (1 : Int32).toNatClampNeg).toInt64), .long (((((V 0) (1 : Int32).toNatClampNeg).toInt64) - o86.toInt64) * o93.toInt64), .long ((((((V 0) (1 : Int32).toNatClampNeg).toInt64) - o60.toInt64) * o67.toInt64) * ((((V 0) (1 : Int32).toNatClampNeg).toInt64) + o76.toInt64))]) ⟨hx, hb, hml, hown, hts⟩ hl.1 (kX7_useOf l g ad V x1 o102 hc102) (cwV 1 hts gX7_isBetter_X7_useOf rfl rfl rfl (by decide +kernel) ⟨Nat.le_of_ble_eq_true rfl, Nat.le_of_ble_eq_true rfl⟩) rfl hK hP hD hS hA [0, 1, 2, 3] [] [0, 1, 2, 3] rfl rfl rfl rfl rfl (by decide) rfl rfl rfl 0 rfl rfl rfl (Nat.le_of_ble_eq_true rfl) dX7_isBetter_102 ⟨Nat.zero_le _, Nat.zero_le _⟩ rfl (fun H locs hP hD hS => ?_)
      refine lv_i2l (v := o102.toInt64) hx hb dX7_isBetter_105 rfl ?_
      refine lv_ladd hx hb dX7_isBetter_106 ?_
      refine lv_lmul hx hb dX7_isBetter_107 ?_
      refine W.lcmp hx hb dX7_isBetter_108 ?_
      refine lv_if_le (tgt := 116) hx hb dX7_isBetter_109 (by decide) (fun c109 => ?_) (fun c109 => ?_)
      · replace h := az_pos c109 h
        refine lv_iconst (v := (0 : Int32)) hx hb dX7_isBetter_116 (by decide) ?_
        have hP : va_P g.1 az_cl (az_cM g ad V) _ := hP
        have hD : va_D A (az_cM g ad V) := hD
        rw [← Option.some.inj h]
        exact az_zret hx hb hr hlocks (az_nar (r := (0 : Int32)) (by decide +kernel)) hK hP hD hS dX7_isBetter_117
      · replace h := az_neg c109 h
        refine lv_iconst (v := (1 : Int32)) hx hb dX7_isBetter_112 (by decide) ?_
        refine lv_goto (tgt := 117) hx hb dX7_isBetter_113 (by decide) ?_
        have hP : va_P g.1 az_cl (az_cM g ad V) _ := hP
        have hD : va_D A (az_cM g ad V) := hD
        rw [← Option.some.inj h]
        exact az_zret hx hb hr hlocks (az_nar (r := (1 : Int32)) (by decide +kernel)) hK hP hD hS dX7_isBetter_117
    · replace h := az_pos c25 h
      refine lv_aload_n hx hb dX7_isBetter_28 rfl (lv_at hl 0 rfl) ?_
      refine lv_iload_n hx hb dX7_isBetter_29 rfl (lv_at hl 1 rfl) ?_
      obtain ⟨o30, hc30, h⟩ := az_bnd h
      refine az_callVi (w2 := az_cM g ad V) (As := [.int x1]) (rest := []) ⟨hx, hb, hml, hown, hts⟩ hl.1 (kX7_ageOf l g ad V x1 o30 hc30) (cwV 1 hts gX7_isBetter_X7_ageOf rfl rfl rfl (by decide +kernel) ⟨Nat.le_of_ble_eq_true rfl, Nat.le_of_ble_eq_true rfl⟩) rfl hK hP hD hS hA [0, 1, 2, 3] [] [0, 1, 2, 3] rfl rfl rfl rfl rfl (by decide) rfl rfl rfl 0 rfl rfl rfl (Nat.le_of_ble_eq_true rfl) dX7_isBetter_30 ⟨Nat.zero_le _, Nat.zero_le _⟩ rfl (fun H locs hP hD hS => ?_)
      refine lv_aload_n hx hb dX7_isBetter_33 rfl (lv_at hl 0 rfl) ?_
      refine lv_iload_n hx hb dX7_isBetter_34 rfl (lv_at hl 2 rfl) ?_
      obtain ⟨o35, hc35, h⟩ := az_bnd h
      refine az_callVi (w2 := az_cM g ad V) (As := [.int x2]) (rest := [.int o30]) ⟨hx, hb, hml, hown, hts⟩ hl.1 (kX7_ageOf l g ad V x2 o35 hc35) (cwV 1 hts gX7_isBetter_X7_ageOf rfl rfl rfl (by decide +kernel) ⟨Nat.le_of_ble_eq_true rfl, Nat.le_of_ble_eq_true rfl⟩) rfl hK hP hD hS hA [0, 1, 2, 3] [] [0, 1, 2, 3] rfl rfl rfl rfl rfl (by decide) rfl rfl rfl 0 rfl rfl rfl (Nat.le_of_ble_eq_true rfl) dX7_isBetter_35 ⟨Nat.zero_le _, Nat.zero_le _⟩ rfl (fun H locs hP hD hS => ?_)
      refine lv_icmp_le (tgt := 45) hx hb dX7_isBetter_38 (by decide) (fun c38 => ?_) (fun c38 => ?_)
      · replace h := az_pos c38 h
        refine lv_iconst (v := (0 : Int32)) hx hb dX7_isBetter_45 (by decide) ?_
        have hP : va_P g.1 az_cl (az_cM g ad V) _ := hP
        have hD : va_D A (az_cM g ad V) := hD
        rw [← Option.some.inj h]
        exact az_zret hx hb hr hlocks (az_nar (r := (0 : Int32)) (by decide +kernel)) hK hP hD hS dX7_isBetter_46
      · replace h := az_neg c38 h
        refine lv_iconst (v := (1 : Int32)) hx hb dX7_isBetter_41 (by decide) ?_
        refine lv_goto (tgt := 46) hx hb dX7_isBetter_42 (by decide) ?_
        have hP : va_P g.1 az_cl (az_cM g ad V) _ := hP
        have hD : va_D A (az_cM g ad V) := hD
        rw [← Option.some.inj h]
        exact az_zret hx hb hr hlocks (az_nar (r := (1 : Int32)) (by decide +kernel)) hK hP hD hS dX7_isBetter_46
  · replace h := az_pos c1 h
    refine lv_aload_n hx hb dX7_isBetter_4 rfl (lv_at hl 0 rfl) ?_
    refine lv_iload_n hx hb dX7_isBetter_5 rfl (lv_at hl 1 rfl) ?_
    obtain ⟨o6, hc6, h⟩ := az_bnd h
    refine az_callVi (w2 := az_cM g ad V) (As := [.int x1]) (rest := []) ⟨hx, hb, hml, hown, hts⟩ hl.1 (kX7_useOf l g ad V x1 o6 hc6) (cwV 1 hts gX7_isBetter_X7_useOf rfl rfl rfl (by decide +kernel) ⟨Nat.le_of_ble_eq_true rfl, Nat.le_of_ble_eq_true rfl⟩) rfl hK hP hD hS hA [0, 1, 2, 3] [] [0, 1, 2, 3] rfl rfl rfl rfl rfl (by decide) rfl rfl rfl 0 rfl rfl rfl (Nat.le_of_ble_eq_true rfl) dX7_isBetter_6 ⟨Nat.zero_le _, Nat.zero_le _⟩ rfl (fun H locs hP hD hS => ?_)
    refine lv_aload_n hx hb dX7_isBetter_9 rfl (lv_at hl 0 rfl) ?_
    refine lv_iload_n hx hb dX7_isBetter_10 rfl (lv_at hl 2 rfl) ?_
    obtain ⟨o11, hc11, h⟩ := az_bnd h
    refine az_callVi (w2 := az_cM g ad V) (As := [.int x2]) (rest := [.int o6]) ⟨hx, hb, hml, hown, hts⟩ hl.1 (kX7_useOf l g ad V x2 o11 hc11) (cwV 1 hts gX7_isBetter_X7_useOf rfl rfl rfl (by decide +kernel) ⟨Nat.le_of_ble_eq_true rfl, Nat.le_of_ble_eq_true rfl⟩) rfl hK hP hD hS hA [0, 1, 2, 3] [] [0, 1, 2, 3] rfl rfl rfl rfl rfl (by decide) rfl rfl rfl 0 rfl rfl rfl (Nat.le_of_ble_eq_true rfl) dX7_isBetter_11 ⟨Nat.zero_le _, Nat.zero_le _⟩ rfl (fun H locs hP hD hS => ?_)
    refine lv_icmp_ge (tgt := 21) hx hb dX7_isBetter_14 (by decide) (fun c14 => ?_) (fun c14 => ?_)
    · replace h := az_pos c14 h
      refine lv_iconst (v := (0 : Int32)) hx hb dX7_isBetter_21 (by decide) ?_
      have hP : va_P g.1 az_cl (az_cM g ad V) _ := hP
      have hD : va_D A (az_cM g ad V) := hD
      rw [← Option.some.inj h]
      exact az_zret hx hb hr hlocks (az_nar (r := (0 : Int32)) (by decide +kernel)) hK hP hD hS dX7_isBetter_22
    · replace h := az_neg c14 h
      refine lv_iconst (v := (1 : Int32)) hx hb dX7_isBetter_17 (by decide) ?_
      refine lv_goto (tgt := 22) hx hb dX7_isBetter_18 (by decide) ?_
      have hP : va_P g.1 az_cl (az_cM g ad V) _ := hP
      have hD : va_D A (az_cM g ad V) := hD
      rw [← Option.some.inj h]
      exact az_zret hx hb hr hlocks (az_nar (r := (1 : Int32)) (by decide +kernel)) hK hP hD hS dX7_isBetter_22

def FX7_chosen_L4 : Nat → az_St → Int32 → Int32 → Int32 → Option (Int32)
  | 0, _, _, _, _ => none
  | n + 1, V, x1, y2, y3 => if (V 0) (0 : Int32).toNatClampNeg ≤ y3 then (some (y2)) else ((FX7_ofSegment V y3 (0 : Int32)).bind (fun o17 => if o17 = (2 : Int32) then ((FX7_useOf V y3).bind (fun o26 => if o26 = (V 0) (1 : Int32).toNatClampNeg then (FX7_chosen_L4 n V x1 y2 (y3 + (1 : Int32))) else (if y2 = (-1 : Int32) then (FX7_chosen_L4 n V x1 y3 (y3 + (1 : Int32))) else ((FX7_isBetter V y3 y2 x1).bind (fun o50 => if o50 = (0 : Int32) then (FX7_chosen_L4 n V x1 y2 (y3 + (1 : Int32))) else (FX7_chosen_L4 n V x1 y3 (y3 + (1 : Int32)))))))) else (FX7_chosen_L4 n V x1 y2 (y3 + (1 : Int32)))))
theorem FX7_chosen_L4_s (n : Nat) (V : az_St) (x1 : Int32) (y2 : Int32) (y3 : Int32) : FX7_chosen_L4 (n + 1) V x1 y2 y3 = (if (V 0) (0 : Int32).toNatClampNeg ≤ y3 then (some (y2)) else ((FX7_ofSegment V y3 (0 : Int32)).bind (fun o17 => if o17 = (2 : Int32) then ((FX7_useOf V y3).bind (fun o26 => if o26 = (V 0) (1 : Int32).toNatClampNeg then (FX7_chosen_L4 n V x1 y2 (y3 + (1 : Int32))) else (if y2 = (-1 : Int32) then (FX7_chosen_L4 n V x1 y3 (y3 + (1 : Int32))) else ((FX7_isBetter V y3 y2 x1).bind (fun o50 => if o50 = (0 : Int32) then (FX7_chosen_L4 n V x1 y2 (y3 + (1 : Int32))) else (FX7_chosen_L4 n V x1 y3 (y3 + (1 : Int32)))))))) else (FX7_chosen_L4 n V x1 y2 (y3 + (1 : Int32)))))) := rfl
def FX7_chosen (V : az_St) (x1 : Int32) : Option (Int32) := FX7_chosen_L4 az_fuel V x1 (-1 : Int32) (0 : Int32)
theorem inX7_chosen_RX7 : ∀ w ∈ wsX70, w ∈ wsX7_chosen := az_inr [27, 28, 29, 30, 31] (by decide +kernel)
set_option maxHeartbeats 4000000 in
set_option maxRecDepth 100000 in
theorem kX7_chosen (l : Launch) (g : az_G) (ad : Nat → Nat) (V : az_St) (x1 : Int32) (o : Int32) (h : FX7_chosen V x1 = some o) : az_I l yX7_chosen wsX7_chosen ({ frames := 4, cells := 0, slots := 0, locals := 92 } : Room) [.ref (ad 0), .int x1] g (az_cM g ad V) o (az_cM g ad V) := by
  refine az_body (cc := cX7_chosen) (maxL := 4) (ret := (some .int)) (Qc := fun A => az_QI g (az_cM g ad V) o A) (by decide +kernel) rfl (Nat.le_of_ble_eq_true rfl) ?_
  intro p e s m args below meth c A hx hb hr hts hown hml hlocks hA hK hP hD hS ls hl
  have hl : lv_has ls 4 [(0, .ref (ad 0)), (1, .int x1)] := hl
  unfold FX7_chosen at h
  have hL4 : ∀ (n : Nat) (y2 : Int32) (y3 : Int32) (H : Heap) (locs : List Loc) (ls : Array Slot), FX7_chosen_L4 n V x1 y2 y3 = some o → va_P g.1 az_cl (az_cM g ad V) H → va_D A (az_cM g ad V) → va_S A s.heap H locs → lv_has ls 4 [(0, .ref (ad 0)), (1, .int x1), (2, .int y2), (3, .int y3)] → W p l e ({ frames := 4, cells := 0, slots := 0, locals := 92 } : Room) s m args below meth c H locs 0 0 (MQ below (az_QI g (az_cM g ad V) o A) args s 0 0 A) (F0 m 4 ls []) := by
    intro n
    induction n with
    | zero => intro y2 y3 H locs ls h; exact az_non h
    | succ n ih =>
      intro y2 y3 H locs ls h hP hD hS hl
      rw [FX7_chosen_L4_s] at h
      refine lv_iload_n hx hb dX7_chosen_4 rfl (lv_at hl 3 rfl) ?_
      refine lv_aload_n hx hb dX7_chosen_5 rfl (lv_at hl 0 rfl) ?_
      refine va_get (D := g.1) (ci := 7) (v := .ref (ad 1)) (C := RX7) (T := TX7) (N := 5) hx hb hts inX7_chosen_RX7 hown hK hP 0 rfl rfl 0 (Nat.le_of_ble_eq_true rfl) (hts _ (List.mem_of_getElem? (i := 1) rfl)) (fun _ h9 => h9) rfl dX7_chosen_6 ?_
      refine lv_iconst (v := (0 : Int32)) hx hb dX7_chosen_9 (by decide) ?_
      refine va_iald (D := g.1) (f := (V 0)) hx hb hK hP 1 0 rfl rfl (az_vin (by decide +kernel)) dX7_chosen_10 ?_
      refine lv_icmp_ge (tgt := 64) hx hb dX7_chosen_11 (by decide) (fun c11 => ?_) (fun c11 => ?_)
      · replace h := az_pos c11 h
        refine lv_iload_n hx hb dX7_chosen_64 rfl (lv_at hl 2 rfl) ?_
        have hP : va_P g.1 az_cl (az_cM g ad V) _ := hP
        have hD : va_D A (az_cM g ad V) := hD
        rw [← Option.some.inj h]
        exact az_iret hx hb hr hlocks hK hP hD hS dX7_chosen_65
      · replace h := az_neg c11 h
        refine lv_aload_n hx hb dX7_chosen_14 rfl (lv_at hl 0 rfl) ?_
        refine lv_iload_n hx hb dX7_chosen_15 rfl (lv_at hl 3 rfl) ?_
        refine lv_iconst (v := (0 : Int32)) hx hb dX7_chosen_16 (by decide) ?_
        obtain ⟨o17, hc17, h⟩ := az_bnd h
        refine az_callVi (w2 := az_cM g ad V) (As := [.int y3, .int (0 : Int32)]) (rest := []) ⟨hx, hb, hml, hown, hts⟩ hl.1 (kX7_ofSegment l g ad V y3 (0 : Int32) o17 hc17) (cwV 2 hts gX7_chosen_X7_ofSegment rfl rfl rfl (by decide +kernel) ⟨Nat.le_of_ble_eq_true rfl, Nat.le_of_ble_eq_true rfl⟩) rfl hK hP hD hS hA [0, 1, 2, 3] [] [0, 1, 2, 3] rfl rfl rfl rfl rfl (by decide) rfl rfl rfl 0 rfl rfl rfl (Nat.le_of_ble_eq_true rfl) dX7_chosen_17 ⟨Nat.zero_le _, Nat.zero_le _⟩ rfl (fun H locs hP hD hS => ?_)
        refine lv_iconst (v := (2 : Int32)) hx hb dX7_chosen_20 (by decide) ?_
        refine lv_icmp_ne (tgt := 58) hx hb dX7_chosen_21 (by decide) (fun c21 => ?_) (fun c21 => ?_)
        · replace h := az_neg c21 h
          refine lv_iinc (v := y3 + (1 : Int32)) (lv' := [(3, .int (y3 + (1 : Int32))), (0, .ref (ad 0)), (1, .int x1), (2, .int y2)]) hx hb dX7_chosen_58 hl (k := 3) rfl (rfl) (by decide) rfl (fun ls hl => ?_)
          refine lv_goto (tgt := 4) hx hb dX7_chosen_61 (by decide) ?_
          have hP : va_P g.1 az_cl (az_cM g ad V) _ := hP
          have hD : va_D A (az_cM g ad V) := hD
          exact ih y2 (y3 + (1 : Int32)) _ _ ls h hP hD hS (lv_sub hl [1, 2, 3, 0] rfl)
        · replace h := az_pos c21 h
          refine lv_aload_n hx hb dX7_chosen_24 rfl (lv_at hl 0 rfl) ?_
          refine lv_iload_n hx hb dX7_chosen_25 rfl (lv_at hl 3 rfl) ?_
          obtain ⟨o26, hc26, h⟩ := az_bnd h
          refine az_callVi (w2 := az_cM g ad V) (As := [.int y3]) (rest := []) ⟨hx, hb, hml, hown, hts⟩ hl.1 (kX7_useOf l g ad V y3 o26 hc26) (cwV 1 hts gX7_chosen_X7_useOf rfl rfl rfl (by decide +kernel) ⟨Nat.le_of_ble_eq_true rfl, Nat.le_of_ble_eq_true rfl⟩) rfl hK hP hD hS hA [0, 1, 2, 3] [] [0, 1, 2, 3] rfl rfl rfl rfl rfl (by decide) rfl rfl rfl 0 rfl rfl rfl (Nat.le_of_ble_eq_true rfl) dX7_chosen_26 ⟨Nat.zero_le _, Nat.zero_le _⟩ rfl (fun H locs hP hD hS => ?_)
          refine lv_aload_n hx hb dX7_chosen_29 rfl (lv_at hl 0 rfl) ?_
          refine va_get (D := g.1) (ci := 7) (v := .ref (ad 1)) (C := RX7) (T := TX7) (N := 5) hx hb hts inX7_chosen_RX7 hown hK hP 0 rfl rfl 0 (Nat.le_of_ble_eq_true rfl) (hts _ (List.mem_of_getElem? (i := 1) rfl)) (fun _ h9 => h9) rfl dX7_chosen_30 ?_
          refine lv_iconst (v := (1 : Int32)) hx hb dX7_chosen_33 (by decide) ?_
          refine va_iald (D := g.1) (f := (V 0)) hx hb hK hP 1 0 rfl rfl (az_vin (by decide +kernel)) dX7_chosen_34 ?_
          refine lv_icmp_ne (tgt := 41) hx hb dX7_chosen_35 (by decide) (fun c35 => ?_) (fun c35 => ?_)
          · replace h := az_neg c35 h
            refine lv_iload_n hx hb dX7_chosen_41 rfl (lv_at hl 2 rfl) ?_
            refine lv_iconst (v := (-1 : Int32)) hx hb dX7_chosen_42 (by decide) ?_
            refine lv_icmp_eq (tgt := 56) hx hb dX7_chosen_43 (by decide) (fun c43 => ?_) (fun c43 => ?_)
            · replace h := az_pos c43 h
              refine lv_iload_n hx hb dX7_chosen_56 rfl (lv_at hl 3 rfl) ?_
              refine lv_istore_n (lv' := [(2, .int y3), (0, .ref (ad 0)), (1, .int x1), (3, .int y3)]) hx hb dX7_chosen_57 rfl hl (by decide) rfl (fun ls hl => ?_)
              refine lv_iinc (v := y3 + (1 : Int32)) (lv' := [(3, .int (y3 + (1 : Int32))), (2, .int y3), (0, .ref (ad 0)), (1, .int x1)]) hx hb dX7_chosen_58 hl (k := 3) rfl (rfl) (by decide) rfl (fun ls hl => ?_)
              refine lv_goto (tgt := 4) hx hb dX7_chosen_61 (by decide) ?_
              have hP : va_P g.1 az_cl (az_cM g ad V) _ := hP
              have hD : va_D A (az_cM g ad V) := hD
              exact ih y3 (y3 + (1 : Int32)) _ _ ls h hP hD hS (lv_sub hl [2, 3, 1, 0] rfl)
            · replace h := az_neg c43 h
              refine lv_aload_n hx hb dX7_chosen_46 rfl (lv_at hl 0 rfl) ?_
              refine lv_iload_n hx hb dX7_chosen_47 rfl (lv_at hl 3 rfl) ?_
              refine lv_iload_n hx hb dX7_chosen_48 rfl (lv_at hl 2 rfl) ?_
              refine lv_iload_n hx hb dX7_chosen_49 rfl (lv_at hl 1 rfl) ?_
              obtain ⟨o50, hc50, h⟩ := az_bnd h
              refine az_callVi (w2 := az_cM g ad V) (As := [.int y3, .int y2, .int x1]) (rest := []) ⟨hx, hb, hml, hown, hts⟩ hl.1 (kX7_isBetter l g ad V y3 y2 x1 o50 hc50) (cwV 3 hts gX7_chosen_X7_isBetter rfl rfl rfl (by decide +kernel) ⟨Nat.le_of_ble_eq_true rfl, Nat.le_of_ble_eq_true rfl⟩) rfl hK hP hD hS hA [0, 1, 2, 3] [] [0, 1, 2, 3] rfl rfl rfl rfl rfl (by decide) rfl rfl rfl 0 rfl rfl rfl (Nat.le_of_ble_eq_true rfl) dX7_chosen_50 ⟨Nat.zero_le _, Nat.zero_le _⟩ rfl (fun H locs hP hD hS => ?_)
              refine lv_if_eq (tgt := 58) hx hb dX7_chosen_53 (by decide) (fun c53 => ?_) (fun c53 => ?_)
              · replace h := az_pos c53 h
                refine lv_iinc (v := y3 + (1 : Int32)) (lv' := [(3, .int (y3 + (1 : Int32))), (0, .ref (ad 0)), (1, .int x1), (2, .int y2)]) hx hb dX7_chosen_58 hl (k := 3) rfl (rfl) (by decide) rfl (fun ls hl => ?_)
                refine lv_goto (tgt := 4) hx hb dX7_chosen_61 (by decide) ?_
                have hP : va_P g.1 az_cl (az_cM g ad V) _ := hP
                have hD : va_D A (az_cM g ad V) := hD
                exact ih y2 (y3 + (1 : Int32)) _ _ ls h hP hD hS (lv_sub hl [1, 2, 3, 0] rfl)
              · replace h := az_neg c53 h
                refine lv_iload_n hx hb dX7_chosen_56 rfl (lv_at hl 3 rfl) ?_
                refine lv_istore_n (lv' := [(2, .int y3), (0, .ref (ad 0)), (1, .int x1), (3, .int y3)]) hx hb dX7_chosen_57 rfl hl (by decide) rfl (fun ls hl => ?_)
                refine lv_iinc (v := y3 + (1 : Int32)) (lv' := [(3, .int (y3 + (1 : Int32))), (2, .int y3), (0, .ref (ad 0)), (1, .int x1)]) hx hb dX7_chosen_58 hl (k := 3) rfl (rfl) (by decide) rfl (fun ls hl => ?_)
                refine lv_goto (tgt := 4) hx hb dX7_chosen_61 (by decide) ?_
                have hP : va_P g.1 az_cl (az_cM g ad V) _ := hP
                have hD : va_D A (az_cM g ad V) := hD
                exact ih y3 (y3 + (1 : Int32)) _ _ ls h hP hD hS (lv_sub hl [2, 3, 1, 0] rfl)
          · replace h := az_pos c35 h
            refine lv_goto (tgt := 58) hx hb dX7_chosen_38 (by decide) ?_
            refine lv_iinc (v := y3 + (1 : Int32)) (lv' := [(3, .int (y3 + (1 : Int32))), (0, .ref (ad 0)), (1, .int x1), (2, .int y2)]) hx hb dX7_chosen_58 hl (k := 3) rfl (rfl) (by decide) rfl (fun ls hl => ?_)
            refine lv_goto (tgt := 4) hx hb dX7_chosen_61 (by decide) ?_
            have hP : va_P g.1 az_cl (az_cM g ad V) _ := hP
            have hD : va_D A (az_cM g ad V) := hD
            exact ih y2 (y3 + (1 : Int32)) _ _ ls h hP hD hS (lv_sub hl [1, 2, 3, 0] rfl)
  refine lv_iconst (v := (-1 : Int32)) hx hb dX7_chosen_0 (by decide) ?_
  refine lv_istore_n (lv' := [(2, .int (-1 : Int32)), (0, .ref (ad 0)), (1, .int x1)]) hx hb dX7_chosen_1 rfl hl (by decide) rfl (fun ls hl => ?_)
  refine lv_iconst (v := (0 : Int32)) hx hb dX7_chosen_2 (by decide) ?_
  refine lv_istore_n (lv' := [(3, .int (0 : Int32)), (2, .int (-1 : Int32)), (0, .ref (ad 0)), (1, .int x1)]) hx hb dX7_chosen_3 rfl hl (by decide) rfl (fun ls hl => ?_)
  have hP : va_P g.1 az_cl (az_cM g ad V) _ := hP
  have hD : va_D A (az_cM g ad V) := hD
  exact hL4 az_fuel (-1 : Int32) (0 : Int32) _ _ ls h hP hD hS (lv_sub hl [2, 3, 1, 0] rfl)

def FX7_victim (V : az_St) (x1 : Int32) : Option (Int32 × (Nat → Int32)) := (FX7_isIn x1.toInt64 (0 : Int64) (2 : Int64)).bind (fun o7 => if o7 = (0 : Int32) then (az_lt (upd (V 2) 1 (1 : Int32)) (fun u18 => if u18 1 ≤ (0 : Int32) then ((FX7_chosen (va_up V 2 u18) x1).bind (fun o32 => if o32 = (-1 : Int32) then (az_lt (upd u18 1 (2 : Int32)) (fun u47 => if u47 1 ≤ (0 : Int32) then (some (o32, u47)) else (some ((0 : Int32), u47)))) else (az_lt (upd u18 1 (0 : Int32)) (fun u47 => if u47 1 ≤ (0 : Int32) then (some (o32, u47)) else (some ((0 : Int32), u47)))))) else (some ((0 : Int32), u18)))) else (az_lt (upd (V 2) 1 (0 : Int32)) (fun u18 => if u18 1 ≤ (0 : Int32) then ((FX7_chosen (va_up V 2 u18) x1).bind (fun o32 => if o32 = (-1 : Int32) then (az_lt (upd u18 1 (2 : Int32)) (fun u47 => if u47 1 ≤ (0 : Int32) then (some (o32, u47)) else (some ((0 : Int32), u47)))) else (az_lt (upd u18 1 (0 : Int32)) (fun u47 => if u47 1 ≤ (0 : Int32) then (some (o32, u47)) else (some ((0 : Int32), u47)))))) else (some ((0 : Int32), u18)))))
theorem inX7_victim_RX7 : ∀ w ∈ wsX70, w ∈ wsX7_victim := az_inr [36, 37, 38, 39, 40] (by decide +kernel)
set_option maxHeartbeats 4000000 in
set_option maxRecDepth 100000 in
theorem kX7_victim (l : Launch) (g : az_G) (ad : Nat → Nat) (V : az_St) (x1 : Int32) (o : Int32 × (Nat → Int32)) (h : FX7_victim V x1 = some o) : az_I l yX7_victim wsX7_victim ({ frames := 5, cells := 0, slots := 0, locals := 115 } : Room) [.ref (ad 0), .int x1] g (az_cM g ad V) o.1 (az_cM g ad (va_up V 2 o.2)) := by
  refine az_body (cc := cX7_victim) (maxL := 3) (ret := (some .int)) (Qc := fun A => az_QI g (az_cM g ad (va_up V 2 o.2)) o.1 A) (by decide +kernel) rfl (Nat.le_of_ble_eq_true rfl) ?_
  intro p e s m args below meth c A hx hb hr hts hown hml hlocks hA hK hP hD hS ls hl
  have hl : lv_has ls 3 [(0, .ref (ad 0)), (1, .int x1)] := hl
  unfold FX7_victim at h
  refine lv_aload_n hx hb dX7_victim_0 rfl (lv_at hl 0 rfl) ?_
  refine lv_iload_n hx hb dX7_victim_1 rfl (lv_at hl 1 rfl) ?_
  refine lv_i2l (v := x1.toInt64) hx hb dX7_victim_2 rfl ?_
  refine lv_lconst (v := (0 : Int64)) hx hb dX7_victim_3 (by decide) ?_
  refine lv_ldc2 (v := (2 : Int64)) hx hb hown (hts _ (List.mem_of_getElem? (i := 1) rfl)) dX7_victim_4 ?_
  obtain ⟨o7, hc7, h⟩ := az_bnd h
  refine az_callS0 (As := [.long x1.toInt64, .long (0 : Int64), .long (2 : Int64)]) (rest := [.ref (ad 0)]) ⟨hx, hb, hml, hown, hts⟩ hl.1 (kX7_isIn l g x1.toInt64 (0 : Int64) (2 : Int64) o7 hc7) (va_cwS 3 hts gX7_victim_X7_isIn rfl rfl rfl (by decide +kernel) ⟨Nat.le_of_ble_eq_true rfl, Nat.le_of_ble_eq_true rfl⟩) rfl hK hP hS hA (Nat.le_of_ble_eq_true rfl) dX7_victim_7 ⟨Nat.zero_le _, Nat.zero_le _⟩ rfl (fun H locs hP hS => ?_)
  refine lv_if_eq (tgt := 17) hx hb dX7_victim_10 (by decide) (fun c10 => ?_) (fun c10 => ?_)
  · replace h := az_pos c10 h
    refine lv_iconst (v := (1 : Int32)) hx hb dX7_victim_17 (by decide) ?_
    refine va_put (D := g.1) (ci := 7) (v := .int (1 : Int32)) (ty := .int) (C := RX7) (T := TX7) (N := 5) hx hb hts inX7_victim_RX7 tyX7 tyX7_ok nmX7 hown hK hP hD hS 0 rfl rfl 3 (Nat.le_of_ble_eq_true rfl) (hts _ (List.mem_of_getElem? (i := 2) rfl)) (fun _ h9 => h9) rfl (by decide +kernel) rfl rfl (Nat.le_of_ble_eq_true rfl) dX7_victim_18 (fun H locs hP hD hS => ?_)
    obtain ⟨u18, e18⟩ : ∃ w : Nat → Int32, w = upd (V 2) 1 (1 : Int32) := ⟨_, rfl⟩
    have hP : va_P g.1 az_cl (az_cM g ad (va_up V 2 u18)) H := by rw [e18]; exact hP
    have hD : va_D A (az_cM g ad (va_up V 2 u18)) := by rw [e18]; exact hD
    replace h := az_let e18 h
    refine lv_aload_n hx hb dX7_victim_21 rfl (lv_at hl 0 rfl) ?_
    refine va_get (D := g.1) (ci := 7) (v := .int (u18 1)) (C := RX7) (T := TX7) (N := 5) hx hb hts inX7_victim_RX7 hown hK hP 0 rfl rfl 3 (Nat.le_of_ble_eq_true rfl) (hts _ (List.mem_of_getElem? (i := 2) rfl)) (fun _ h9 => h9) rfl dX7_victim_22 ?_
    refine lv_if_le (tgt := 30) hx hb dX7_victim_25 (by decide) (fun c25 => ?_) (fun c25 => ?_)
    · replace h := az_pos c25 h
      refine lv_aload_n hx hb dX7_victim_30 rfl (lv_at hl 0 rfl) ?_
      refine lv_iload_n hx hb dX7_victim_31 rfl (lv_at hl 1 rfl) ?_
      obtain ⟨o32, hc32, h⟩ := az_bnd h
      refine az_callVi (w2 := az_cM g ad (va_up V 2 u18)) (As := [.int x1]) (rest := []) ⟨hx, hb, hml, hown, hts⟩ hl.1 (kX7_chosen l g ad (va_up V 2 u18) x1 o32 hc32) (cwV 1 hts gX7_victim_X7_chosen rfl rfl rfl (by decide +kernel) ⟨Nat.le_of_ble_eq_true rfl, Nat.le_of_ble_eq_true rfl⟩) rfl hK hP hD hS hA [0, 1, 2, 3] [] [0, 1, 2, 3] rfl rfl rfl rfl rfl (by decide) rfl rfl rfl 0 rfl rfl rfl (Nat.le_of_ble_eq_true rfl) dX7_victim_32 ⟨Nat.zero_le _, Nat.zero_le _⟩ rfl (fun H locs hP hD hS => ?_)
      refine lv_istore_n (lv' := [(2, .int o32), (0, .ref (ad 0)), (1, .int x1)]) hx hb dX7_victim_35 rfl hl (by decide) rfl (fun ls hl => ?_)
      refine lv_aload_n hx hb dX7_victim_36 rfl (lv_at hl 1 rfl) ?_
      refine lv_iload_n hx hb dX7_victim_37 rfl (lv_at hl 0 rfl) ?_
      refine lv_iconst (v := (-1 : Int32)) hx hb dX7_victim_38 (by decide) ?_
      refine lv_icmp_ne (tgt := 46) hx hb dX7_victim_39 (by decide) (fun c39 => ?_) (fun c39 => ?_)
      · replace h := az_neg c39 h
        refine lv_iconst (v := (0 : Int32)) hx hb dX7_victim_46 (by decide) ?_
        refine va_put (D := g.1) (ci := 7) (v := .int (0 : Int32)) (ty := .int) (C := RX7) (T := TX7) (N := 5) hx hb hts inX7_victim_RX7 tyX7 tyX7_ok nmX7 hown hK hP hD hS 0 rfl rfl 3 (Nat.le_of_ble_eq_true rfl) (hts _ (List.mem_of_getElem? (i := 2) rfl)) (fun _ h9 => h9) rfl (by decide +kernel) rfl rfl (Nat.le_of_ble_eq_true rfl) dX7_victim_47 (fun H locs hP hD hS => ?_)
        obtain ⟨u47, e47⟩ : ∃ w : Nat → Int32, w = upd u18 1 (0 : Int32) := ⟨_, rfl⟩
        have hP : va_P g.1 az_cl (az_cM g ad (va_up V 2 u47)) H := by rw [e47]; exact hP
        have hD : va_D A (az_cM g ad (va_up V 2 u47)) := by rw [e47]; exact hD
        replace h := az_let e47 h
        refine lv_aload_n hx hb dX7_victim_50 rfl (lv_at hl 1 rfl) ?_
        refine va_get (D := g.1) (ci := 7) (v := .int (u47 1)) (C := RX7) (T := TX7) (N := 5) hx hb hts inX7_victim_RX7 hown hK hP 0 rfl rfl 3 (Nat.le_of_ble_eq_true rfl) (hts _ (List.mem_of_getElem? (i := 2) rfl)) (fun _ h9 => h9) rfl dX7_victim_51 ?_
        refine lv_if_le (tgt := 61) hx hb dX7_victim_54 (by decide) (fun c54 => ?_) (fun c54 => ?_)
        · replace h := az_pos c54 h
          refine lv_iload_n hx hb dX7_victim_61 rfl (lv_at hl 0 rfl) ?_
          have hP : va_P g.1 az_cl (az_cM g ad (va_up V 2 u47)) _ := hP
          have hD : va_D A (az_cM g ad (va_up V 2 u47)) := hD
          rw [← Option.some.inj h]
          exact az_iret hx hb hr hlocks hK hP hD hS dX7_victim_62
        · replace h := az_neg c54 h
          refine lv_iconst (v := (0 : Int32)) hx hb dX7_victim_57 (by decide) ?_
          refine lv_goto (tgt := 62) hx hb dX7_victim_58 (by decide) ?_
          have hP : va_P g.1 az_cl (az_cM g ad (va_up V 2 u47)) _ := hP
          have hD : va_D A (az_cM g ad (va_up V 2 u47)) := hD
          rw [← Option.some.inj h]
          exact az_iret hx hb hr hlocks hK hP hD hS dX7_victim_62
      · replace h := az_pos c39 h
        refine lv_iconst (v := (2 : Int32)) hx hb dX7_victim_42 (by decide) ?_
        refine lv_goto (tgt := 47) hx hb dX7_victim_43 (by decide) ?_
        refine va_put (D := g.1) (ci := 7) (v := .int (2 : Int32)) (ty := .int) (C := RX7) (T := TX7) (N := 5) hx hb hts inX7_victim_RX7 tyX7 tyX7_ok nmX7 hown hK hP hD hS 0 rfl rfl 3 (Nat.le_of_ble_eq_true rfl) (hts _ (List.mem_of_getElem? (i := 2) rfl)) (fun _ h9 => h9) rfl (by decide +kernel) rfl rfl (Nat.le_of_ble_eq_true rfl) dX7_victim_47 (fun H locs hP hD hS => ?_)
        obtain ⟨u47, e47⟩ : ∃ w : Nat → Int32, w = upd u18 1 (2 : Int32) := ⟨_, rfl⟩
        have hP : va_P g.1 az_cl (az_cM g ad (va_up V 2 u47)) H := by rw [e47]; exact hP
        have hD : va_D A (az_cM g ad (va_up V 2 u47)) := by rw [e47]; exact hD
        replace h := az_let e47 h
        refine lv_aload_n hx hb dX7_victim_50 rfl (lv_at hl 1 rfl) ?_
        refine va_get (D := g.1) (ci := 7) (v := .int (u47 1)) (C := RX7) (T := TX7) (N := 5) hx hb hts inX7_victim_RX7 hown hK hP 0 rfl rfl 3 (Nat.le_of_ble_eq_true rfl) (hts _ (List.mem_of_getElem? (i := 2) rfl)) (fun _ h9 => h9) rfl dX7_victim_51 ?_
        refine lv_if_le (tgt := 61) hx hb dX7_victim_54 (by decide) (fun c54 => ?_) (fun c54 => ?_)
        · replace h := az_pos c54 h
          refine lv_iload_n hx hb dX7_victim_61 rfl (lv_at hl 0 rfl) ?_
          have hP : va_P g.1 az_cl (az_cM g ad (va_up V 2 u47)) _ := hP
          have hD : va_D A (az_cM g ad (va_up V 2 u47)) := hD
          rw [← Option.some.inj h]
          exact az_iret hx hb hr hlocks hK hP hD hS dX7_victim_62
        · replace h := az_neg c54 h
          refine lv_iconst (v := (0 : Int32)) hx hb dX7_victim_57 (by decide) ?_
          refine lv_goto (tgt := 62) hx hb dX7_victim_58 (by decide) ?_
          have hP : va_P g.1 az_cl (az_cM g ad (va_up V 2 u47)) _ := hP
          have hD : va_D A (az_cM g ad (va_up V 2 u47)) := hD
          rw [← Option.some.inj h]
          exact az_iret hx hb hr hlocks hK hP hD hS dX7_victim_62
    · replace h := az_neg c25 h
      refine lv_iconst (v := (0 : Int32)) hx hb dX7_victim_28 (by decide) ?_
      have hP : va_P g.1 az_cl (az_cM g ad (va_up V 2 u18)) _ := hP
      have hD : va_D A (az_cM g ad (va_up V 2 u18)) := hD
      rw [← Option.some.inj h]
      exact az_iret hx hb hr hlocks hK hP hD hS dX7_victim_29
  · replace h := az_neg c10 h
    refine lv_iconst (v := (0 : Int32)) hx hb dX7_victim_13 (by decide) ?_
    refine lv_goto (tgt := 18) hx hb dX7_victim_14 (by decide) ?_
    refine va_put (D := g.1) (ci := 7) (v := .int (0 : Int32)) (ty := .int) (C := RX7) (T := TX7) (N := 5) hx hb hts inX7_victim_RX7 tyX7 tyX7_ok nmX7 hown hK hP hD hS 0 rfl rfl 3 (Nat.le_of_ble_eq_true rfl) (hts _ (List.mem_of_getElem? (i := 2) rfl)) (fun _ h9 => h9) rfl (by decide +kernel) rfl rfl (Nat.le_of_ble_eq_true rfl) dX7_victim_18 (fun H locs hP hD hS => ?_)
    obtain ⟨u18, e18⟩ : ∃ w : Nat → Int32, w = upd (V 2) 1 (0 : Int32) := ⟨_, rfl⟩
    have hP : va_P g.1 az_cl (az_cM g ad (va_up V 2 u18)) H := by rw [e18]; exact hP
    have hD : va_D A (az_cM g ad (va_up V 2 u18)) := by rw [e18]; exact hD
    replace h := az_let e18 h
    refine lv_aload_n hx hb dX7_victim_21 rfl (lv_at hl 0 rfl) ?_
    refine va_get (D := g.1) (ci := 7) (v := .int (u18 1)) (C := RX7) (T := TX7) (N := 5) hx hb hts inX7_victim_RX7 hown hK hP 0 rfl rfl 3 (Nat.le_of_ble_eq_true rfl) (hts _ (List.mem_of_getElem? (i := 2) rfl)) (fun _ h9 => h9) rfl dX7_victim_22 ?_
    refine lv_if_le (tgt := 30) hx hb dX7_victim_25 (by decide) (fun c25 => ?_) (fun c25 => ?_)
    · replace h := az_pos c25 h
      refine lv_aload_n hx hb dX7_victim_30 rfl (lv_at hl 0 rfl) ?_
      refine lv_iload_n hx hb dX7_victim_31 rfl (lv_at hl 1 rfl) ?_
      obtain ⟨o32, hc32, h⟩ := az_bnd h
      refine az_callVi (w2 := az_cM g ad (va_up V 2 u18)) (As := [.int x1]) (rest := []) ⟨hx, hb, hml, hown, hts⟩ hl.1 (kX7_chosen l g ad (va_up V 2 u18) x1 o32 hc32) (cwV 1 hts gX7_victim_X7_chosen rfl rfl rfl (by decide +kernel) ⟨Nat.le_of_ble_eq_true rfl, Nat.le_of_ble_eq_true rfl⟩) rfl hK hP hD hS hA [0, 1, 2, 3] [] [0, 1, 2, 3] rfl rfl rfl rfl rfl (by decide) rfl rfl rfl 0 rfl rfl rfl (Nat.le_of_ble_eq_true rfl) dX7_victim_32 ⟨Nat.zero_le _, Nat.zero_le _⟩ rfl (fun H locs hP hD hS => ?_)
      refine lv_istore_n (lv' := [(2, .int o32), (0, .ref (ad 0)), (1, .int x1)]) hx hb dX7_victim_35 rfl hl (by decide) rfl (fun ls hl => ?_)
      refine lv_aload_n hx hb dX7_victim_36 rfl (lv_at hl 1 rfl) ?_
      refine lv_iload_n hx hb dX7_victim_37 rfl (lv_at hl 0 rfl) ?_
      refine lv_iconst (v := (-1 : Int32)) hx hb dX7_victim_38 (by decide) ?_
      refine lv_icmp_ne (tgt := 46) hx hb dX7_victim_39 (by decide) (fun c39 => ?_) (fun c39 => ?_)
      · replace h := az_neg c39 h
        refine lv_iconst (v := (0 : Int32)) hx hb dX7_victim_46 (by decide) ?_
        refine va_put (D := g.1) (ci := 7) (v := .int (0 : Int32)) (ty := .int) (C := RX7) (T := TX7) (N := 5) hx hb hts inX7_victim_RX7 tyX7 tyX7_ok nmX7 hown hK hP hD hS 0 rfl rfl 3 (Nat.le_of_ble_eq_true rfl) (hts _ (List.mem_of_getElem? (i := 2) rfl)) (fun _ h9 => h9) rfl (by decide +kernel) rfl rfl (Nat.le_of_ble_eq_true rfl) dX7_victim_47 (fun H locs hP hD hS => ?_)
        obtain ⟨u47, e47⟩ : ∃ w : Nat → Int32, w = upd u18 1 (0 : Int32) := ⟨_, rfl⟩
        have hP : va_P g.1 az_cl (az_cM g ad (va_up V 2 u47)) H := by rw [e47]; exact hP
        have hD : va_D A (az_cM g ad (va_up V 2 u47)) := by rw [e47]; exact hD
        replace h := az_let e47 h
        refine lv_aload_n hx hb dX7_victim_50 rfl (lv_at hl 1 rfl) ?_
        refine va_get (D := g.1) (ci := 7) (v := .int (u47 1)) (C := RX7) (T := TX7) (N := 5) hx hb hts inX7_victim_RX7 hown hK hP 0 rfl rfl 3 (Nat.le_of_ble_eq_true rfl) (hts _ (List.mem_of_getElem? (i := 2) rfl)) (fun _ h9 => h9) rfl dX7_victim_51 ?_
        refine lv_if_le (tgt := 61) hx hb dX7_victim_54 (by decide) (fun c54 => ?_) (fun c54 => ?_)
        · replace h := az_pos c54 h
          refine lv_iload_n hx hb dX7_victim_61 rfl (lv_at hl 0 rfl) ?_
          have hP : va_P g.1 az_cl (az_cM g ad (va_up V 2 u47)) _ := hP
          have hD : va_D A (az_cM g ad (va_up V 2 u47)) := hD
          rw [← Option.some.inj h]
          exact az_iret hx hb hr hlocks hK hP hD hS dX7_victim_62
        · replace h := az_neg c54 h
          refine lv_iconst (v := (0 : Int32)) hx hb dX7_victim_57 (by decide) ?_
          refine lv_goto (tgt := 62) hx hb dX7_victim_58 (by decide) ?_
          have hP : va_P g.1 az_cl (az_cM g ad (va_up V 2 u47)) _ := hP
          have hD : va_D A (az_cM g ad (va_up V 2 u47)) := hD
          rw [← Option.some.inj h]
          exact az_iret hx hb hr hlocks hK hP hD hS dX7_victim_62
      · replace h := az_pos c39 h
        refine lv_iconst (v := (2 : Int32)) hx hb dX7_victim_42 (by decide) ?_
        refine lv_goto (tgt := 47) hx hb dX7_victim_43 (by decide) ?_
        refine va_put (D := g.1) (ci := 7) (v := .int (2 : Int32)) (ty := .int) (C := RX7) (T := TX7) (N := 5) hx hb hts inX7_victim_RX7 tyX7 tyX7_ok nmX7 hown hK hP hD hS 0 rfl rfl 3 (Nat.le_of_ble_eq_true rfl) (hts _ (List.mem_of_getElem? (i := 2) rfl)) (fun _ h9 => h9) rfl (by decide +kernel) rfl rfl (Nat.le_of_ble_eq_true rfl) dX7_victim_47 (fun H locs hP hD hS => ?_)
        obtain ⟨u47, e47⟩ : ∃ w : Nat → Int32, w = upd u18 1 (2 : Int32) := ⟨_, rfl⟩
        have hP : va_P g.1 az_cl (az_cM g ad (va_up V 2 u47)) H := by rw [e47]; exact hP
        have hD : va_D A (az_cM g ad (va_up V 2 u47)) := by rw [e47]; exact hD
        replace h := az_let e47 h
        refine lv_aload_n hx hb dX7_victim_50 rfl (lv_at hl 1 rfl) ?_
        refine va_get (D := g.1) (ci := 7) (v := .int (u47 1)) (C := RX7) (T := TX7) (N := 5) hx hb hts inX7_victim_RX7 hown hK hP 0 rfl rfl 3 (Nat.le_of_ble_eq_true rfl) (hts _ (List.mem_of_getElem? (i := 2) rfl)) (fun _ h9 => h9) rfl dX7_victim_51 ?_
        refine lv_if_le (tgt := 61) hx hb dX7_victim_54 (by decide) (fun c54 => ?_) (fun c54 => ?_)
        · replace h := az_pos c54 h
          refine lv_iload_n hx hb dX7_victim_61 rfl (lv_at hl 0 rfl) ?_
          have hP : va_P g.1 az_cl (az_cM g ad (va_up V 2 u47)) _ := hP
          have hD : va_D A (az_cM g ad (va_up V 2 u47)) := hD
          rw [← Option.some.inj h]
          exact az_iret hx hb hr hlocks hK hP hD hS dX7_victim_62
        · replace h := az_neg c54 h
          refine lv_iconst (v := (0 : Int32)) hx hb dX7_victim_57 (by decide) ?_
          refine lv_goto (tgt := 62) hx hb dX7_victim_58 (by decide) ?_
          have hP : va_P g.1 az_cl (az_cM g ad (va_up V 2 u47)) _ := hP
          have hD : va_D A (az_cM g ad (va_up V 2 u47)) := hD
          rw [← Option.some.inj h]
          exact az_iret hx hb hr hlocks hK hP hD hS dX7_victim_62
    · replace h := az_neg c25 h
      refine lv_iconst (v := (0 : Int32)) hx hb dX7_victim_28 (by decide) ?_
      have hP : va_P g.1 az_cl (az_cM g ad (va_up V 2 u18)) _ := hP
      have hD : va_D A (az_cM g ad (va_up V 2 u18)) := hD
      rw [← Option.some.inj h]
      exact az_iret hx hb hr hlocks hK hP hD hS dX7_victim_29

def FX7_relocationsNow_L24 : Nat → az_St → Int32 → Int32 → (Nat → Int32) → Int32 → Option (Int32 × (Nat → Int32))
  | 0, _, _, _, _, _ => none
  | n + 1, V, x1, x2, wV0, y3 => if (20 : Int32) < y3 then (some ((-1 : Int32), wV0)) else (az_lt (upd wV0 (3 : Int32).toNatClampNeg ((wV0 (3 : Int32).toNatClampNeg) + (2 : Int32))) (fun u39 => (FX7_reclaims (va_up V 0 u39)).bind (fun o41 => (FX7_roomNow (va_up V 0 o41.2)).bind (fun o47 => if o47 < x2 then ((FX7_chosen (va_up V 0 o41.2) x1).bind (fun o58 => if o58 = (-1 : Int32) then (some ((-1 : Int32), o41.2)) else ((FX7_hasRoom (va_up V 0 o41.2) o58).bind (fun o72 => if o72 = (0 : Int32) then (some ((-1 : Int32), o41.2)) else ((FX7_relocates (va_up V 0 o41.2) o58).bind (fun o83 => FX7_relocationsNow_L24 n V x1 x2 o83.2 (y3 + (1 : Int32)))))))) else (some (y3, o41.2))))))
theorem FX7_relocationsNow_L24_s (n : Nat) (V : az_St) (x1 : Int32) (x2 : Int32) (wV0 : Nat → Int32) (y3 : Int32) : FX7_relocationsNow_L24 (n + 1) V x1 x2 wV0 y3 = (if (20 : Int32) < y3 then (some ((-1 : Int32), wV0)) else (az_lt (upd wV0 (3 : Int32).toNatClampNeg ((wV0 (3 : Int32).toNatClampNeg) + (2 : Int32))) (fun u39 => (FX7_reclaims (va_up V 0 u39)).bind (fun o41 => (FX7_roomNow (va_up V 0 o41.2)).bind (fun o47 => if o47 < x2 then ((FX7_chosen (va_up V 0 o41.2) x1).bind (fun o58 => if o58 = (-1 : Int32) then (some ((-1 : Int32), o41.2)) else ((FX7_hasRoom (va_up V 0 o41.2) o58).bind (fun o72 => if o72 = (0 : Int32) then (some ((-1 : Int32), o41.2)) else ((FX7_relocates (va_up V 0 o41.2) o58).bind (fun o83 => FX7_relocationsNow_L24 n V x1 x2 o83.2 (y3 + (1 : Int32)))))))) else (some (y3, o41.2))))))) := rfl
def FX7_relocationsNow_L2 : Nat → az_St → Int32 → Int32 → (Nat → Int32) → Int32 → Option (Int32 × (Nat → Int32))
  | 0, _, _, _, _, _ => none
  | n + 1, V, x1, x2, wV0, y3 => if (6 : Int32) ≤ y3 then (FX7_relocationsNow_L24 az_fuel V x1 x2 wV0 (0 : Int32)) else ((FX7_lets (va_up V 0 wV0) y3 (0 : Int32)).bind (fun o11 => FX7_relocationsNow_L2 n V x1 x2 o11.2 (y3 + (1 : Int32))))
theorem FX7_relocationsNow_L2_s (n : Nat) (V : az_St) (x1 : Int32) (x2 : Int32) (wV0 : Nat → Int32) (y3 : Int32) : FX7_relocationsNow_L2 (n + 1) V x1 x2 wV0 y3 = (if (6 : Int32) ≤ y3 then (FX7_relocationsNow_L24 az_fuel V x1 x2 wV0 (0 : Int32)) else ((FX7_lets (va_up V 0 wV0) y3 (0 : Int32)).bind (fun o11 => FX7_relocationsNow_L2 n V x1 x2 o11.2 (y3 + (1 : Int32))))) := rfl
def FX7_relocationsNow (V : az_St) (x1 : Int32) (x2 : Int32) : Option (Int32 × (Nat → Int32)) := FX7_relocationsNow_L2 az_fuel V x1 x2 (V 0) (0 : Int32)
theorem inX7_relocationsNow_RX7 : ∀ w ∈ wsX70, w ∈ wsX7_relocationsNow := az_inr [129, 130, 131, 132, 133] (by decide +kernel)
set_option maxHeartbeats 4000000 in
set_option maxRecDepth 100000 in
theorem kX7_relocationsNow (l : Launch) (g : az_G) (ad : Nat → Nat) (V : az_St) (x1 : Int32) (x2 : Int32) (o : Int32 × (Nat → Int32)) (h : FX7_relocationsNow V x1 x2 = some o) : az_I l yX7_relocationsNow wsX7_relocationsNow ({ frames := 5, cells := 0, slots := 0, locals := 120 } : Room) [.ref (ad 0), .int x1, .int x2] g (az_cM g ad V) o.1 (az_cM g ad (va_up V 0 o.2)) := by
  refine az_body (cc := cX7_relocationsNow) (maxL := 7) (ret := (some .int)) (Qc := fun A => az_QI g (az_cM g ad (va_up V 0 o.2)) o.1 A) (by decide +kernel) rfl (Nat.le_of_ble_eq_true rfl) ?_
  intro p e s m args below meth c A hx hb hr hts hown hml hlocks hA hK hP hD hS ls hl
  have hl : lv_has ls 7 [(0, .ref (ad 0)), (1, .int x1), (2, .int x2)] := hl
  unfold FX7_relocationsNow at h
  have hL24 : ∀ (n : Nat) (wV0 : Nat → Int32) (y3 : Int32) (H : Heap) (locs : List Loc) (ls : Array Slot), FX7_relocationsNow_L24 n V x1 x2 wV0 y3 = some o → va_P g.1 az_cl (az_cM g ad (va_up V 0 wV0)) H → va_D A (az_cM g ad (va_up V 0 wV0)) → va_S A s.heap H locs → lv_has ls 7 [(0, .ref (ad 0)), (1, .int x1), (2, .int x2), (3, .int y3)] → W p l e ({ frames := 5, cells := 0, slots := 0, locals := 120 } : Room) s m args below meth c H locs 0 0 (MQ below (az_QI g (az_cM g ad (va_up V 0 o.2)) o.1 A) args s 0 0 A) (F0 m 24 ls []) := by
    intro n
    induction n with
    | zero => intro wV0 y3 H locs ls h; exact az_non h
    | succ n ih =>
      intro wV0 y3 H locs ls h hP hD hS hl
      rw [FX7_relocationsNow_L24_s] at h
      refine lv_iload_n hx hb dX7_relocationsNow_24 rfl (lv_at hl 3 rfl) ?_
      refine lv_bipush (v := (20 : Int32)) hx hb dX7_relocationsNow_25 (by decide) ?_
      refine lv_icmp_gt (tgt := 94) hx hb dX7_relocationsNow_27 (by decide) (fun c27 => ?_) (fun c27 => ?_)
      · replace h := az_pos c27 h
        refine lv_iconst (v := (-1 : Int32)) hx hb dX7_relocationsNow_94 (by decide) ?_
        have hP : va_P g.1 az_cl (az_cM g ad (va_up V 0 wV0)) _ := hP
        have hD : va_D A (az_cM g ad (va_up V 0 wV0)) := hD
        rw [← Option.some.inj h]
        exact az_iret hx hb hr hlocks hK hP hD hS dX7_relocationsNow_95
      · replace h := az_neg c27 h
        refine lv_aload_n hx hb dX7_relocationsNow_30 rfl (lv_at hl 0 rfl) ?_
        refine va_get (D := g.1) (ci := 7) (v := .ref (ad 1)) (C := RX7) (T := TX7) (N := 5) hx hb hts inX7_relocationsNow_RX7 hown hK hP 0 rfl rfl 0 (Nat.le_of_ble_eq_true rfl) (hts _ (List.mem_of_getElem? (i := 1) rfl)) (fun _ h9 => h9) rfl dX7_relocationsNow_31 ?_
        refine lv_iconst (v := (3 : Int32)) hx hb dX7_relocationsNow_34 (by decide) ?_
        refine lv_dup2_11 hx hb dX7_relocationsNow_35 rfl rfl ?_
        refine va_iald (D := g.1) (f := wV0) hx hb hK hP 1 0 rfl rfl (az_vin (by decide +kernel)) dX7_relocationsNow_36 ?_
        refine lv_iconst (v := (2 : Int32)) hx hb dX7_relocationsNow_37 (by decide) ?_
        refine lv_iadd hx hb dX7_relocationsNow_38 ?_
        refine va_iast (D := g.1) (f := wV0) hx hb hK hP hD hS 1 0 rfl rfl (az_vin (by decide +kernel)) dX7_relocationsNow_39 (fun H locs hP hD hS => ?_)
        obtain ⟨u39, e39⟩ : ∃ w : Nat → Int32, w = upd wV0 (3 : Int32).toNatClampNeg ((wV0 (3 : Int32).toNatClampNeg) + (2 : Int32)) := ⟨_, rfl⟩
        have hP : va_P g.1 az_cl (az_cM g ad (va_up V 0 u39)) H := by rw [e39]; exact hP
        have hD : va_D A (az_cM g ad (va_up V 0 u39)) := by rw [e39]; exact hD
        replace h := az_let e39 h
        refine lv_aload_n hx hb dX7_relocationsNow_40 rfl (lv_at hl 0 rfl) ?_
        obtain ⟨o41, hc41, h⟩ := az_bnd h
        refine az_callVi (w2 := az_cM g ad (va_up V 0 o41.2)) (As := []) (rest := []) ⟨hx, hb, hml, hown, hts⟩ hl.1 (kX7_reclaims l g ad (va_up V 0 u39) o41 hc41) (cwV 0 hts gX7_relocationsNow_X7_reclaims rfl rfl rfl (by decide +kernel) ⟨Nat.le_of_ble_eq_true rfl, Nat.le_of_ble_eq_true rfl⟩) rfl hK hP hD hS hA [0, 1, 2, 3] [] [0, 1, 2, 3] rfl rfl rfl rfl rfl (by decide) rfl rfl rfl 0 rfl rfl rfl (Nat.le_of_ble_eq_true rfl) dX7_relocationsNow_41 ⟨Nat.zero_le _, Nat.zero_le _⟩ rfl (fun H locs hP hD hS => ?_)
        refine lv_istore (lv' := [(4, .int o41.1), (0, .ref (ad 0)), (1, .int x1), (2, .int x2), (3, .int y3)]) hx hb dX7_relocationsNow_44 hl (by decide) rfl (fun ls hl => ?_)
        refine lv_aload_n hx hb dX7_relocationsNow_46 rfl (lv_at hl 1 rfl) ?_
        obtain ⟨o47, hc47, h⟩ := az_bnd h
        refine az_callVi (w2 := az_cM g ad (va_up V 0 o41.2)) (As := []) (rest := []) ⟨hx, hb, hml, hown, hts⟩ hl.1 (kX7_roomNow l g ad (va_up V 0 o41.2) o47 hc47) (cwV 0 hts gX7_relocationsNow_X7_roomNow rfl rfl rfl (by decide +kernel) ⟨Nat.le_of_ble_eq_true rfl, Nat.le_of_ble_eq_true rfl⟩) rfl hK hP hD hS hA [0, 1, 2, 3] [] [0, 1, 2, 3] rfl rfl rfl rfl rfl (by decide) rfl rfl rfl 0 rfl rfl rfl (Nat.le_of_ble_eq_true rfl) dX7_relocationsNow_47 ⟨Nat.zero_le _, Nat.zero_le _⟩ rfl (fun H locs hP hD hS => ?_)
        refine lv_iload_n hx hb dX7_relocationsNow_50 rfl (lv_at hl 3 rfl) ?_
        refine lv_icmp_lt (tgt := 56) hx hb dX7_relocationsNow_51 (by decide) (fun c51 => ?_) (fun c51 => ?_)
        · replace h := az_pos c51 h
          refine lv_aload_n hx hb dX7_relocationsNow_56 rfl (lv_at hl 1 rfl) ?_
          refine lv_iload_n hx hb dX7_relocationsNow_57 rfl (lv_at hl 2 rfl) ?_
          obtain ⟨o58, hc58, h⟩ := az_bnd h
          refine az_callVi (w2 := az_cM g ad (va_up V 0 o41.2)) (As := [.int x1]) (rest := []) ⟨hx, hb, hml, hown, hts⟩ hl.1 (kX7_chosen l g ad (va_up V 0 o41.2) x1 o58 hc58) (cwV 1 hts gX7_relocationsNow_X7_chosen rfl rfl rfl (by decide +kernel) ⟨Nat.le_of_ble_eq_true rfl, Nat.le_of_ble_eq_true rfl⟩) rfl hK hP hD hS hA [0, 1, 2, 3] [] [0, 1, 2, 3] rfl rfl rfl rfl rfl (by decide) rfl rfl rfl 0 rfl rfl rfl (Nat.le_of_ble_eq_true rfl) dX7_relocationsNow_58 ⟨Nat.zero_le _, Nat.zero_le _⟩ rfl (fun H locs hP hD hS => ?_)
          refine lv_istore (lv' := [(5, .int o58), (4, .int o41.1), (0, .ref (ad 0)), (1, .int x1), (2, .int x2), (3, .int y3)]) hx hb dX7_relocationsNow_61 hl (by decide) rfl (fun ls hl => ?_)
          refine lv_iload hx hb dX7_relocationsNow_63 (lv_at hl 0 rfl) ?_
          refine lv_iconst (v := (-1 : Int32)) hx hb dX7_relocationsNow_65 (by decide) ?_
          refine lv_icmp_eq (tgt := 78) hx hb dX7_relocationsNow_66 (by decide) (fun c66 => ?_) (fun c66 => ?_)
          · replace h := az_pos c66 h
            refine lv_iconst (v := (-1 : Int32)) hx hb dX7_relocationsNow_78 (by decide) ?_
            have hP : va_P g.1 az_cl (az_cM g ad (va_up V 0 o41.2)) _ := hP
            have hD : va_D A (az_cM g ad (va_up V 0 o41.2)) := hD
            rw [← Option.some.inj h]
            exact az_iret hx hb hr hlocks hK hP hD hS dX7_relocationsNow_79
          · replace h := az_neg c66 h
            refine lv_aload_n hx hb dX7_relocationsNow_69 rfl (lv_at hl 2 rfl) ?_
            refine lv_iload hx hb dX7_relocationsNow_70 (lv_at hl 0 rfl) ?_
            obtain ⟨o72, hc72, h⟩ := az_bnd h
            refine az_callVi (w2 := az_cM g ad (va_up V 0 o41.2)) (As := [.int o58]) (rest := []) ⟨hx, hb, hml, hown, hts⟩ hl.1 (kX7_hasRoom l g ad (va_up V 0 o41.2) o58 o72 hc72) (cwV 1 hts gX7_relocationsNow_X7_hasRoom rfl rfl rfl (by decide +kernel) ⟨Nat.le_of_ble_eq_true rfl, Nat.le_of_ble_eq_true rfl⟩) rfl hK hP hD hS hA [0, 1, 2, 3] [] [0, 1, 2, 3] rfl rfl rfl rfl rfl (by decide) rfl rfl rfl 0 rfl rfl rfl (Nat.le_of_ble_eq_true rfl) dX7_relocationsNow_72 ⟨Nat.zero_le _, Nat.zero_le _⟩ rfl (fun H locs hP hD hS => ?_)
            refine lv_if_ne (tgt := 80) hx hb dX7_relocationsNow_75 (by decide) (fun c75 => ?_) (fun c75 => ?_)
            · replace h := az_neg c75 h
              refine lv_aload_n hx hb dX7_relocationsNow_80 rfl (lv_at hl 2 rfl) ?_
              refine lv_iload hx hb dX7_relocationsNow_81 (lv_at hl 0 rfl) ?_
              obtain ⟨o83, hc83, h⟩ := az_bnd h
              refine az_callVi (w2 := az_cM g ad (va_up V 0 o83.2)) (As := [.int o58]) (rest := []) ⟨hx, hb, hml, hown, hts⟩ hl.1 (kX7_relocates l g ad (va_up V 0 o41.2) o58 o83 hc83) (cwV 1 hts gX7_relocationsNow_X7_relocates rfl rfl rfl (by decide +kernel) ⟨Nat.le_of_ble_eq_true rfl, Nat.le_of_ble_eq_true rfl⟩) rfl hK hP hD hS hA [0, 1, 2, 3] [] [0, 1, 2, 3] rfl rfl rfl rfl rfl (by decide) rfl rfl rfl 0 rfl rfl rfl (Nat.le_of_ble_eq_true rfl) dX7_relocationsNow_83 ⟨Nat.zero_le _, Nat.zero_le _⟩ rfl (fun H locs hP hD hS => ?_)
              refine lv_istore (lv' := [(6, .int o83.1), (5, .int o58), (4, .int o41.1), (0, .ref (ad 0)), (1, .int x1), (2, .int x2), (3, .int y3)]) hx hb dX7_relocationsNow_86 hl (by decide) rfl (fun ls hl => ?_)
              refine lv_iinc (v := y3 + (1 : Int32)) (lv' := [(3, .int (y3 + (1 : Int32))), (6, .int o83.1), (5, .int o58), (4, .int o41.1), (0, .ref (ad 0)), (1, .int x1), (2, .int x2)]) hx hb dX7_relocationsNow_88 hl (k := 6) rfl (rfl) (by decide) rfl (fun ls hl => ?_)
              refine lv_goto (tgt := 24) hx hb dX7_relocationsNow_91 (by decide) ?_
              have hP : va_P g.1 az_cl (az_cM g ad (va_up V 0 o83.2)) _ := hP
              have hD : va_D A (az_cM g ad (va_up V 0 o83.2)) := hD
              exact ih o83.2 (y3 + (1 : Int32)) _ _ ls h hP hD hS (lv_sub hl [4, 5, 6, 0] rfl)
            · replace h := az_pos c75 h
              refine lv_iconst (v := (-1 : Int32)) hx hb dX7_relocationsNow_78 (by decide) ?_
              have hP : va_P g.1 az_cl (az_cM g ad (va_up V 0 o41.2)) _ := hP
              have hD : va_D A (az_cM g ad (va_up V 0 o41.2)) := hD
              rw [← Option.some.inj h]
              exact az_iret hx hb hr hlocks hK hP hD hS dX7_relocationsNow_79
        · replace h := az_neg c51 h
          refine lv_iload_n hx hb dX7_relocationsNow_54 rfl (lv_at hl 4 rfl) ?_
          have hP : va_P g.1 az_cl (az_cM g ad (va_up V 0 o41.2)) _ := hP
          have hD : va_D A (az_cM g ad (va_up V 0 o41.2)) := hD
          rw [← Option.some.inj h]
          exact az_iret hx hb hr hlocks hK hP hD hS dX7_relocationsNow_55
  have hL2 : ∀ (n : Nat) (wV0 : Nat → Int32) (y3 : Int32) (H : Heap) (locs : List Loc) (ls : Array Slot), FX7_relocationsNow_L2 n V x1 x2 wV0 y3 = some o → va_P g.1 az_cl (az_cM g ad (va_up V 0 wV0)) H → va_D A (az_cM g ad (va_up V 0 wV0)) → va_S A s.heap H locs → lv_has ls 7 [(0, .ref (ad 0)), (1, .int x1), (2, .int x2), (3, .int y3)] → W p l e ({ frames := 5, cells := 0, slots := 0, locals := 120 } : Room) s m args below meth c H locs 0 0 (MQ below (az_QI g (az_cM g ad (va_up V 0 o.2)) o.1 A) args s 0 0 A) (F0 m 2 ls []) := by
    intro n
    induction n with
    | zero => intro wV0 y3 H locs ls h; exact az_non h
    | succ n ih =>
      intro wV0 y3 H locs ls h hP hD hS hl
      rw [FX7_relocationsNow_L2_s] at h
      refine lv_iload_n hx hb dX7_relocationsNow_2 rfl (lv_at hl 3 rfl) ?_
      refine lv_bipush (v := (6 : Int32)) hx hb dX7_relocationsNow_3 (by decide) ?_
      refine lv_icmp_ge (tgt := 22) hx hb dX7_relocationsNow_5 (by decide) (fun c5 => ?_) (fun c5 => ?_)
      · replace h := az_pos c5 h
        refine lv_iconst (v := (0 : Int32)) hx hb dX7_relocationsNow_22 (by decide) ?_
        refine lv_istore_n (lv' := [(3, .int (0 : Int32)), (0, .ref (ad 0)), (1, .int x1), (2, .int x2)]) hx hb dX7_relocationsNow_23 rfl hl (by decide) rfl (fun ls hl => ?_)
        have hP : va_P g.1 az_cl (az_cM g ad (va_up V 0 wV0)) _ := hP
        have hD : va_D A (az_cM g ad (va_up V 0 wV0)) := hD
        exact hL24 az_fuel wV0 (0 : Int32) _ _ ls h hP hD hS (lv_sub hl [1, 2, 3, 0] rfl)
      · replace h := az_neg c5 h
        refine lv_aload_n hx hb dX7_relocationsNow_8 rfl (lv_at hl 0 rfl) ?_
        refine lv_iload_n hx hb dX7_relocationsNow_9 rfl (lv_at hl 3 rfl) ?_
        refine lv_iconst (v := (0 : Int32)) hx hb dX7_relocationsNow_10 (by decide) ?_
        obtain ⟨o11, hc11, h⟩ := az_bnd h
        refine az_callVi (w2 := az_cM g ad (va_up V 0 o11.2)) (As := [.int y3, .int (0 : Int32)]) (rest := []) ⟨hx, hb, hml, hown, hts⟩ hl.1 (kX7_lets l g ad (va_up V 0 wV0) y3 (0 : Int32) o11 hc11) (cwV 2 hts gX7_relocationsNow_X7_lets rfl rfl rfl (by decide +kernel) ⟨Nat.le_of_ble_eq_true rfl, Nat.le_of_ble_eq_true rfl⟩) rfl hK hP hD hS hA [0, 1, 2, 3] [] [0, 1, 2, 3] rfl rfl rfl rfl rfl (by decide) rfl rfl rfl 0 rfl rfl rfl (Nat.le_of_ble_eq_true rfl) dX7_relocationsNow_11 ⟨Nat.zero_le _, Nat.zero_le _⟩ rfl (fun H locs hP hD hS => ?_)
        refine lv_istore (lv' := [(4, .int o11.1), (0, .ref (ad 0)), (1, .int x1), (2, .int x2), (3, .int y3)]) hx hb dX7_relocationsNow_14 hl (by decide) rfl (fun ls hl => ?_)
        refine lv_iinc (v := y3 + (1 : Int32)) (lv' := [(3, .int (y3 + (1 : Int32))), (4, .int o11.1), (0, .ref (ad 0)), (1, .int x1), (2, .int x2)]) hx hb dX7_relocationsNow_16 hl (k := 4) rfl (rfl) (by decide) rfl (fun ls hl => ?_)
        refine lv_goto (tgt := 2) hx hb dX7_relocationsNow_19 (by decide) ?_
        have hP : va_P g.1 az_cl (az_cM g ad (va_up V 0 o11.2)) _ := hP
        have hD : va_D A (az_cM g ad (va_up V 0 o11.2)) := hD
        exact ih o11.2 (y3 + (1 : Int32)) _ _ ls h hP hD hS (lv_sub hl [2, 3, 4, 0] rfl)
  refine lv_iconst (v := (0 : Int32)) hx hb dX7_relocationsNow_0 (by decide) ?_
  refine lv_istore_n (lv' := [(3, .int (0 : Int32)), (0, .ref (ad 0)), (1, .int x1), (2, .int x2)]) hx hb dX7_relocationsNow_1 rfl hl (by decide) rfl (fun ls hl => ?_)
  have hP : va_P g.1 az_cl (az_cM g ad (va_up V 0 (V 0))) _ := hP
  have hD : va_D A (az_cM g ad (va_up V 0 (V 0))) := hD
  exact hL2 az_fuel (V 0) (0 : Int32) _ _ ls h hP hD hS (lv_sub hl [1, 2, 3, 0] rfl)

def FX7_relocationsFor_L79 : Nat → az_St → Int32 → Int32 → (Nat → Int32) → (Nat → Int32) → (Nat → Int32) → Int32 → Int32 → Option (Int32 × (Nat → Int32) × (Nat → Int32) × (Nat → Int32))
  | 0, _, _, _, _, _, _, _, _ => none
  | n + 1, V, x1, x2, wV0, wV2, wV3, y3, y4 => if (1036 : Int32) ≤ y4 then (if y3 = (-1 : Int32) then (az_lt (upd wV2 1 (2 : Int32)) (fun u118 => if u118 1 ≤ (0 : Int32) then (some (y3, wV0, u118, wV3)) else (some ((0 : Int32), wV0, u118, wV3)))) else (az_lt (upd wV2 1 (0 : Int32)) (fun u118 => if u118 1 ≤ (0 : Int32) then (some (y3, wV0, u118, wV3)) else (some ((0 : Int32), wV0, u118, wV3))))) else (if az_in y4 1036 = true then az_lt (upd wV0 y4.toNatClampNeg (wV3 y4.toNatClampNeg)) (fun u100 => FX7_relocationsFor_L79 n V x1 x2 u100 wV2 wV3 y3 (y4 + (1 : Int32))) else none)
theorem FX7_relocationsFor_L79_s (n : Nat) (V : az_St) (x1 : Int32) (x2 : Int32) (wV0 : Nat → Int32) (wV2 : Nat → Int32) (wV3 : Nat → Int32) (y3 : Int32) (y4 : Int32) : FX7_relocationsFor_L79 (n + 1) V x1 x2 wV0 wV2 wV3 y3 y4 = (if (1036 : Int32) ≤ y4 then (if y3 = (-1 : Int32) then (az_lt (upd wV2 1 (2 : Int32)) (fun u118 => if u118 1 ≤ (0 : Int32) then (some (y3, wV0, u118, wV3)) else (some ((0 : Int32), wV0, u118, wV3)))) else (az_lt (upd wV2 1 (0 : Int32)) (fun u118 => if u118 1 ≤ (0 : Int32) then (some (y3, wV0, u118, wV3)) else (some ((0 : Int32), wV0, u118, wV3))))) else (if az_in y4 1036 = true then az_lt (upd wV0 y4.toNatClampNeg (wV3 y4.toNatClampNeg)) (fun u100 => FX7_relocationsFor_L79 n V x1 x2 u100 wV2 wV3 y3 (y4 + (1 : Int32))) else none)) := rfl
def FX7_relocationsFor_L44 : Nat → az_St → Int32 → Int32 → (Nat → Int32) → (Nat → Int32) → (Nat → Int32) → Int32 → Option (Int32 × (Nat → Int32) × (Nat → Int32) × (Nat → Int32))
  | 0, _, _, _, _, _, _, _ => none
  | n + 1, V, x1, x2, wV0, wV2, wV3, y3 => if (1036 : Int32) ≤ y3 then ((FX7_relocationsNow (va_up (va_up (va_up V 0 wV0) 2 wV2) 3 wV3) x1 x2).bind (fun o72 => FX7_relocationsFor_L79 az_fuel V x1 x2 o72.2 wV2 wV3 o72.1 (0 : Int32))) else (if az_in y3 1036 = true then az_lt (upd wV3 y3.toNatClampNeg (wV0 y3.toNatClampNeg)) (fun u62 => FX7_relocationsFor_L44 n V x1 x2 wV0 wV2 u62 (y3 + (1 : Int32))) else none)
theorem FX7_relocationsFor_L44_s (n : Nat) (V : az_St) (x1 : Int32) (x2 : Int32) (wV0 : Nat → Int32) (wV2 : Nat → Int32) (wV3 : Nat → Int32) (y3 : Int32) : FX7_relocationsFor_L44 (n + 1) V x1 x2 wV0 wV2 wV3 y3 = (if (1036 : Int32) ≤ y3 then ((FX7_relocationsNow (va_up (va_up (va_up V 0 wV0) 2 wV2) 3 wV3) x1 x2).bind (fun o72 => FX7_relocationsFor_L79 az_fuel V x1 x2 o72.2 wV2 wV3 o72.1 (0 : Int32))) else (if az_in y3 1036 = true then az_lt (upd wV3 y3.toNatClampNeg (wV0 y3.toNatClampNeg)) (fun u62 => FX7_relocationsFor_L44 n V x1 x2 wV0 wV2 u62 (y3 + (1 : Int32))) else none)) := rfl
def FX7_relocationsFor (V : az_St) (x1 : Int32) (x2 : Int32) : Option (Int32 × (Nat → Int32) × (Nat → Int32) × (Nat → Int32)) := (FX7_isIn x1.toInt64 (0 : Int64) (2 : Int64)).bind (fun o7 => if o7 = (0 : Int32) then (az_lt (upd (V 2) 1 (1 : Int32)) (fun u30 => if u30 1 ≤ (0 : Int32) then (FX7_relocationsFor_L44 az_fuel V x1 x2 (V 0) u30 (V 3) (0 : Int32)) else (some ((0 : Int32), (V 0), u30, (V 3))))) else ((FX7_isIn x2.toInt64 (1 : Int64) (120 : Int64)).bind (fun o19 => if o19 = (0 : Int32) then (az_lt (upd (V 2) 1 (1 : Int32)) (fun u30 => if u30 1 ≤ (0 : Int32) then (FX7_relocationsFor_L44 az_fuel V x1 x2 (V 0) u30 (V 3) (0 : Int32)) else (some ((0 : Int32), (V 0), u30, (V 3))))) else (az_lt (upd (V 2) 1 (0 : Int32)) (fun u30 => if u30 1 ≤ (0 : Int32) then (FX7_relocationsFor_L44 az_fuel V x1 x2 (V 0) u30 (V 3) (0 : Int32)) else (some ((0 : Int32), (V 0), u30, (V 3))))))))
theorem inX7_relocationsFor_RX7 : ∀ w ∈ wsX70, w ∈ wsX7_relocationsFor := az_inr [137, 138, 139, 140, 141] (by decide +kernel)
set_option maxHeartbeats 4000000 in
set_option maxRecDepth 100000 in
theorem kX7_relocationsFor (l : Launch) (g : az_G) (ad : Nat → Nat) (V : az_St) (x1 : Int32) (x2 : Int32) (o : Int32 × (Nat → Int32) × (Nat → Int32) × (Nat → Int32)) (h : FX7_relocationsFor V x1 x2 = some o) : az_I l yX7_relocationsFor wsX7_relocationsFor ({ frames := 6, cells := 0, slots := 0, locals := 146 } : Room) [.ref (ad 0), .int x1, .int x2] g (az_cM g ad V) o.1 (az_cM g ad (va_up (va_up (va_up V 0 o.2.1) 2 o.2.2.1) 3 o.2.2.2)) := by
  refine az_body (cc := cX7_relocationsFor) (maxL := 5) (ret := (some .int)) (Qc := fun A => az_QI g (az_cM g ad (va_up (va_up (va_up V 0 o.2.1) 2 o.2.2.1) 3 o.2.2.2)) o.1 A) (by decide +kernel) rfl (Nat.le_of_ble_eq_true rfl) ?_
  intro p e s m args below meth c A hx hb hr hts hown hml hlocks hA hK hP hD hS ls hl
  have hl : lv_has ls 5 [(0, .ref (ad 0)), (1, .int x1), (2, .int x2)] := hl
  unfold FX7_relocationsFor at h
  have hL79 : ∀ (n : Nat) (wV0 : Nat → Int32) (wV2 : Nat → Int32) (wV3 : Nat → Int32) (y3 : Int32) (y4 : Int32) (H : Heap) (locs : List Loc) (ls : Array Slot), FX7_relocationsFor_L79 n V x1 x2 wV0 wV2 wV3 y3 y4 = some o → va_P g.1 az_cl (az_cM g ad (va_up (va_up (va_up V 0 wV0) 2 wV2) 3 wV3)) H → va_D A (az_cM g ad (va_up (va_up (va_up V 0 wV0) 2 wV2) 3 wV3)) → va_S A s.heap H locs → lv_has ls 5 [(0, .ref (ad 0)), (3, .int y3), (4, .int y4)] → W p l e ({ frames := 6, cells := 0, slots := 0, locals := 146 } : Room) s m args below meth c H locs 0 0 (MQ below (az_QI g (az_cM g ad (va_up (va_up (va_up V 0 o.2.1) 2 o.2.2.1) 3 o.2.2.2)) o.1 A) args s 0 0 A) (F0 m 79 ls []) := by
    intro n
    induction n with
    | zero => intro wV0 wV2 wV3 y3 y4 H locs ls h; exact az_non h
    | succ n ih =>
      intro wV0 wV2 wV3 y3 y4 H locs ls h hP hD hS hl
      rw [FX7_relocationsFor_L79_s] at h
      refine lv_iload hx hb dX7_relocationsFor_79 (lv_at hl 2 rfl) ?_
      refine lv_sipush (v := (1036 : Int32)) hx hb dX7_relocationsFor_81 (by decide) ?_
      refine lv_icmp_ge (tgt := 107) hx hb dX7_relocationsFor_84 (by decide) (fun c84 => ?_) (fun c84 => ?_)
      · replace h := az_pos c84 h
        refine lv_aload_n hx hb dX7_relocationsFor_107 rfl (lv_at hl 0 rfl) ?_
        refine lv_iload_n hx hb dX7_relocationsFor_108 rfl (lv_at hl 1 rfl) ?_
        refine lv_iconst (v := (-1 : Int32)) hx hb dX7_relocationsFor_109 (by decide) ?_
        refine lv_icmp_ne (tgt := 117) hx hb dX7_relocationsFor_110 (by decide) (fun c110 => ?_) (fun c110 => ?_)
        · replace h := az_neg c110 h
          refine lv_iconst (v := (0 : Int32)) hx hb dX7_relocationsFor_117 (by decide) ?_
          refine va_put (D := g.1) (ci := 7) (v := .int (0 : Int32)) (ty := .int) (C := RX7) (T := TX7) (N := 5) hx hb hts inX7_relocationsFor_RX7 tyX7 tyX7_ok nmX7 hown hK hP hD hS 0 rfl rfl 3 (Nat.le_of_ble_eq_true rfl) (hts _ (List.mem_of_getElem? (i := 3) rfl)) (fun _ h9 => h9) rfl (by decide +kernel) rfl rfl (Nat.le_of_ble_eq_true rfl) dX7_relocationsFor_118 (fun H locs hP hD hS => ?_)
          obtain ⟨u118, e118⟩ : ∃ w : Nat → Int32, w = upd wV2 1 (0 : Int32) := ⟨_, rfl⟩
          have hP : va_P g.1 az_cl (az_cM g ad (va_up (va_up (va_up V 0 wV0) 2 u118) 3 wV3)) H := by rw [e118]; exact hP
          have hD : va_D A (az_cM g ad (va_up (va_up (va_up V 0 wV0) 2 u118) 3 wV3)) := by rw [e118]; exact hD
          replace h := az_let e118 h
          refine lv_aload_n hx hb dX7_relocationsFor_121 rfl (lv_at hl 0 rfl) ?_
          refine va_get (D := g.1) (ci := 7) (v := .int (u118 1)) (C := RX7) (T := TX7) (N := 5) hx hb hts inX7_relocationsFor_RX7 hown hK hP 0 rfl rfl 3 (Nat.le_of_ble_eq_true rfl) (hts _ (List.mem_of_getElem? (i := 3) rfl)) (fun _ h9 => h9) rfl dX7_relocationsFor_122 ?_
          refine lv_if_le (tgt := 132) hx hb dX7_relocationsFor_125 (by decide) (fun c125 => ?_) (fun c125 => ?_)
          · replace h := az_pos c125 h
            refine lv_iload_n hx hb dX7_relocationsFor_132 rfl (lv_at hl 1 rfl) ?_
            have hP : va_P g.1 az_cl (az_cM g ad (va_up (va_up (va_up V 0 wV0) 2 u118) 3 wV3)) _ := hP
            have hD : va_D A (az_cM g ad (va_up (va_up (va_up V 0 wV0) 2 u118) 3 wV3)) := hD
            rw [← Option.some.inj h]
            exact az_iret hx hb hr hlocks hK hP hD hS dX7_relocationsFor_133
          · replace h := az_neg c125 h
            refine lv_iconst (v := (0 : Int32)) hx hb dX7_relocationsFor_128 (by decide) ?_
            refine lv_goto (tgt := 133) hx hb dX7_relocationsFor_129 (by decide) ?_
            have hP : va_P g.1 az_cl (az_cM g ad (va_up (va_up (va_up V 0 wV0) 2 u118) 3 wV3)) _ := hP
            have hD : va_D A (az_cM g ad (va_up (va_up (va_up V 0 wV0) 2 u118) 3 wV3)) := hD
            rw [← Option.some.inj h]
            exact az_iret hx hb hr hlocks hK hP hD hS dX7_relocationsFor_133
        · replace h := az_pos c110 h
          refine lv_iconst (v := (2 : Int32)) hx hb dX7_relocationsFor_113 (by decide) ?_
          refine lv_goto (tgt := 118) hx hb dX7_relocationsFor_114 (by decide) ?_
          refine va_put (D := g.1) (ci := 7) (v := .int (2 : Int32)) (ty := .int) (C := RX7) (T := TX7) (N := 5) hx hb hts inX7_relocationsFor_RX7 tyX7 tyX7_ok nmX7 hown hK hP hD hS 0 rfl rfl 3 (Nat.le_of_ble_eq_true rfl) (hts _ (List.mem_of_getElem? (i := 3) rfl)) (fun _ h9 => h9) rfl (by decide +kernel) rfl rfl (Nat.le_of_ble_eq_true rfl) dX7_relocationsFor_118 (fun H locs hP hD hS => ?_)
          obtain ⟨u118, e118⟩ : ∃ w : Nat → Int32, w = upd wV2 1 (2 : Int32) := ⟨_, rfl⟩
          have hP : va_P g.1 az_cl (az_cM g ad (va_up (va_up (va_up V 0 wV0) 2 u118) 3 wV3)) H := by rw [e118]; exact hP
          have hD : va_D A (az_cM g ad (va_up (va_up (va_up V 0 wV0) 2 u118) 3 wV3)) := by rw [e118]; exact hD
          replace h := az_let e118 h
          refine lv_aload_n hx hb dX7_relocationsFor_121 rfl (lv_at hl 0 rfl) ?_
          refine va_get (D := g.1) (ci := 7) (v := .int (u118 1)) (C := RX7) (T := TX7) (N := 5) hx hb hts inX7_relocationsFor_RX7 hown hK hP 0 rfl rfl 3 (Nat.le_of_ble_eq_true rfl) (hts _ (List.mem_of_getElem? (i := 3) rfl)) (fun _ h9 => h9) rfl dX7_relocationsFor_122 ?_
          refine lv_if_le (tgt := 132) hx hb dX7_relocationsFor_125 (by decide) (fun c125 => ?_) (fun c125 => ?_)
          · replace h := az_pos c125 h
            refine lv_iload_n hx hb dX7_relocationsFor_132 rfl (lv_at hl 1 rfl) ?_
            have hP : va_P g.1 az_cl (az_cM g ad (va_up (va_up (va_up V 0 wV0) 2 u118) 3 wV3)) _ := hP
            have hD : va_D A (az_cM g ad (va_up (va_up (va_up V 0 wV0) 2 u118) 3 wV3)) := hD
            rw [← Option.some.inj h]
            exact az_iret hx hb hr hlocks hK hP hD hS dX7_relocationsFor_133
          · replace h := az_neg c125 h
            refine lv_iconst (v := (0 : Int32)) hx hb dX7_relocationsFor_128 (by decide) ?_
            refine lv_goto (tgt := 133) hx hb dX7_relocationsFor_129 (by decide) ?_
            have hP : va_P g.1 az_cl (az_cM g ad (va_up (va_up (va_up V 0 wV0) 2 u118) 3 wV3)) _ := hP
            have hD : va_D A (az_cM g ad (va_up (va_up (va_up V 0 wV0) 2 u118) 3 wV3)) := hD
            rw [← Option.some.inj h]
            exact az_iret hx hb hr hlocks hK hP hD hS dX7_relocationsFor_133
      · replace h := az_neg c84 h
        refine lv_aload_n hx hb dX7_relocationsFor_87 rfl (lv_at hl 0 rfl) ?_
        refine va_get (D := g.1) (ci := 7) (v := .ref (ad 1)) (C := RX7) (T := TX7) (N := 5) hx hb hts inX7_relocationsFor_RX7 hown hK hP 0 rfl rfl 0 (Nat.le_of_ble_eq_true rfl) (hts _ (List.mem_of_getElem? (i := 5) rfl)) (fun _ h9 => h9) rfl dX7_relocationsFor_88 ?_
        refine lv_iload hx hb dX7_relocationsFor_91 (lv_at hl 2 rfl) ?_
        refine lv_aload_n hx hb dX7_relocationsFor_93 rfl (lv_at hl 0 rfl) ?_
        refine va_get (D := g.1) (ci := 7) (v := .ref (ad 3)) (C := RX7) (T := TX7) (N := 5) hx hb hts inX7_relocationsFor_RX7 hown hK hP 0 rfl rfl 4 (Nat.le_of_ble_eq_true rfl) (hts _ (List.mem_of_getElem? (i := 4) rfl)) (fun _ h9 => h9) rfl dX7_relocationsFor_94 ?_
        refine lv_iload hx hb dX7_relocationsFor_97 (lv_at hl 2 rfl) ?_
        obtain ⟨i99, h⟩ := az_ite h
        refine va_iald (D := g.1) (f := wV3) hx hb hK hP 3 0 rfl rfl (az_vin i99) dX7_relocationsFor_99 ?_
        refine va_iast (D := g.1) (f := wV0) hx hb hK hP hD hS 1 0 rfl rfl (az_vin i99) dX7_relocationsFor_100 (fun H locs hP hD hS => ?_)
        obtain ⟨u100, e100⟩ : ∃ w : Nat → Int32, w = upd wV0 y4.toNatClampNeg (wV3 y4.toNatClampNeg) := ⟨_, rfl⟩
        have hP : va_P g.1 az_cl (az_cM g ad (va_up (va_up (va_up V 0 u100) 2 wV2) 3 wV3)) H := by rw [e100]; exact hP
        have hD : va_D A (az_cM g ad (va_up (va_up (va_up V 0 u100) 2 wV2) 3 wV3)) := by rw [e100]; exact hD
        replace h := az_let e100 h
        refine lv_iinc (v := y4 + (1 : Int32)) (lv' := [(4, .int (y4 + (1 : Int32))), (0, .ref (ad 0)), (3, .int y3)]) hx hb dX7_relocationsFor_101 hl (k := 2) rfl (rfl) (by decide) rfl (fun ls hl => ?_)
        refine lv_goto (tgt := 79) hx hb dX7_relocationsFor_104 (by decide) ?_
        have hP : va_P g.1 az_cl (az_cM g ad (va_up (va_up (va_up V 0 u100) 2 wV2) 3 wV3)) _ := hP
        have hD : va_D A (az_cM g ad (va_up (va_up (va_up V 0 u100) 2 wV2) 3 wV3)) := hD
        exact ih u100 wV2 wV3 y3 (y4 + (1 : Int32)) _ _ ls h hP hD hS (lv_sub hl [1, 2, 0] rfl)
  have hL44 : ∀ (n : Nat) (wV0 : Nat → Int32) (wV2 : Nat → Int32) (wV3 : Nat → Int32) (y3 : Int32) (H : Heap) (locs : List Loc) (ls : Array Slot), FX7_relocationsFor_L44 n V x1 x2 wV0 wV2 wV3 y3 = some o → va_P g.1 az_cl (az_cM g ad (va_up (va_up (va_up V 0 wV0) 2 wV2) 3 wV3)) H → va_D A (az_cM g ad (va_up (va_up (va_up V 0 wV0) 2 wV2) 3 wV3)) → va_S A s.heap H locs → lv_has ls 5 [(0, .ref (ad 0)), (1, .int x1), (2, .int x2), (3, .int y3)] → W p l e ({ frames := 6, cells := 0, slots := 0, locals := 146 } : Room) s m args below meth c H locs 0 0 (MQ below (az_QI g (az_cM g ad (va_up (va_up (va_up V 0 o.2.1) 2 o.2.2.1) 3 o.2.2.2)) o.1 A) args s 0 0 A) (F0 m 44 ls []) := by
    intro n
    induction n with
    | zero => intro wV0 wV2 wV3 y3 H locs ls h; exact az_non h
    | succ n ih =>
      intro wV0 wV2 wV3 y3 H locs ls h hP hD hS hl
      rw [FX7_relocationsFor_L44_s] at h
      refine lv_iload_n hx hb dX7_relocationsFor_44 rfl (lv_at hl 3 rfl) ?_
      refine lv_sipush (v := (1036 : Int32)) hx hb dX7_relocationsFor_45 (by decide) ?_
      refine lv_icmp_ge (tgt := 69) hx hb dX7_relocationsFor_48 (by decide) (fun c48 => ?_) (fun c48 => ?_)
      · replace h := az_pos c48 h
        refine lv_aload_n hx hb dX7_relocationsFor_69 rfl (lv_at hl 0 rfl) ?_
        refine lv_iload_n hx hb dX7_relocationsFor_70 rfl (lv_at hl 1 rfl) ?_
        refine lv_iload_n hx hb dX7_relocationsFor_71 rfl (lv_at hl 2 rfl) ?_
        obtain ⟨o72, hc72, h⟩ := az_bnd h
        refine az_callVi (w2 := az_cM g ad (va_up (va_up (va_up V 0 o72.2) 2 wV2) 3 wV3)) (As := [.int x1, .int x2]) (rest := []) ⟨hx, hb, hml, hown, hts⟩ hl.1 (kX7_relocationsNow l g ad (va_up (va_up (va_up V 0 wV0) 2 wV2) 3 wV3) x1 x2 o72 hc72) (cwV 2 hts gX7_relocationsFor_X7_relocationsNow rfl rfl rfl (by decide +kernel) ⟨Nat.le_of_ble_eq_true rfl, Nat.le_of_ble_eq_true rfl⟩) rfl hK hP hD hS hA [0, 1, 2, 3] [] [0, 1, 2, 3] rfl rfl rfl rfl rfl (by decide) rfl rfl rfl 0 rfl rfl rfl (Nat.le_of_ble_eq_true rfl) dX7_relocationsFor_72 ⟨Nat.zero_le _, Nat.zero_le _⟩ rfl (fun H locs hP hD hS => ?_)
        refine lv_istore_n (lv' := [(3, .int o72.1), (0, .ref (ad 0)), (1, .int x1), (2, .int x2)]) hx hb dX7_relocationsFor_75 rfl hl (by decide) rfl (fun ls hl => ?_)
        refine lv_iconst (v := (0 : Int32)) hx hb dX7_relocationsFor_76 (by decide) ?_
        refine lv_istore (lv' := [(4, .int (0 : Int32)), (3, .int o72.1), (0, .ref (ad 0)), (1, .int x1), (2, .int x2)]) hx hb dX7_relocationsFor_77 hl (by decide) rfl (fun ls hl => ?_)
        have hP : va_P g.1 az_cl (az_cM g ad (va_up (va_up (va_up V 0 o72.2) 2 wV2) 3 wV3)) _ := hP
        have hD : va_D A (az_cM g ad (va_up (va_up (va_up V 0 o72.2) 2 wV2) 3 wV3)) := hD
        exact hL79 az_fuel o72.2 wV2 wV3 o72.1 (0 : Int32) _ _ ls h hP hD hS (lv_sub hl [2, 1, 0] rfl)
      · replace h := az_neg c48 h
        refine lv_aload_n hx hb dX7_relocationsFor_51 rfl (lv_at hl 0 rfl) ?_
        refine va_get (D := g.1) (ci := 7) (v := .ref (ad 3)) (C := RX7) (T := TX7) (N := 5) hx hb hts inX7_relocationsFor_RX7 hown hK hP 0 rfl rfl 4 (Nat.le_of_ble_eq_true rfl) (hts _ (List.mem_of_getElem? (i := 4) rfl)) (fun _ h9 => h9) rfl dX7_relocationsFor_52 ?_
        refine lv_iload_n hx hb dX7_relocationsFor_55 rfl (lv_at hl 3 rfl) ?_
        refine lv_aload_n hx hb dX7_relocationsFor_56 rfl (lv_at hl 0 rfl) ?_
        refine va_get (D := g.1) (ci := 7) (v := .ref (ad 1)) (C := RX7) (T := TX7) (N := 5) hx hb hts inX7_relocationsFor_RX7 hown hK hP 0 rfl rfl 0 (Nat.le_of_ble_eq_true rfl) (hts _ (List.mem_of_getElem? (i := 5) rfl)) (fun _ h9 => h9) rfl dX7_relocationsFor_57 ?_
        refine lv_iload_n hx hb dX7_relocationsFor_60 rfl (lv_at hl 3 rfl) ?_
        obtain ⟨i61, h⟩ := az_ite h
        refine va_iald (D := g.1) (f := wV0) hx hb hK hP 1 0 rfl rfl (az_vin i61) dX7_relocationsFor_61 ?_
        refine va_iast (D := g.1) (f := wV3) hx hb hK hP hD hS 3 0 rfl rfl (az_vin i61) dX7_relocationsFor_62 (fun H locs hP hD hS => ?_)
        obtain ⟨u62, e62⟩ : ∃ w : Nat → Int32, w = upd wV3 y3.toNatClampNeg (wV0 y3.toNatClampNeg) := ⟨_, rfl⟩
        have hP : va_P g.1 az_cl (az_cM g ad (va_up (va_up (va_up V 0 wV0) 2 wV2) 3 u62)) H := by rw [e62]; exact hP
        have hD : va_D A (az_cM g ad (va_up (va_up (va_up V 0 wV0) 2 wV2) 3 u62)) := by rw [e62]; exact hD
        replace h := az_let e62 h
        refine lv_iinc (v := y3 + (1 : Int32)) (lv' := [(3, .int (y3 + (1 : Int32))), (0, .ref (ad 0)), (1, .int x1), (2, .int x2)]) hx hb dX7_relocationsFor_63 hl (k := 3) rfl (rfl) (by decide) rfl (fun ls hl => ?_)
        refine lv_goto (tgt := 44) hx hb dX7_relocationsFor_66 (by decide) ?_
        have hP : va_P g.1 az_cl (az_cM g ad (va_up (va_up (va_up V 0 wV0) 2 wV2) 3 u62)) _ := hP
        have hD : va_D A (az_cM g ad (va_up (va_up (va_up V 0 wV0) 2 wV2) 3 u62)) := hD
        exact ih wV0 wV2 u62 (y3 + (1 : Int32)) _ _ ls h hP hD hS (lv_sub hl [1, 2, 3, 0] rfl)
  refine lv_aload_n hx hb dX7_relocationsFor_0 rfl (lv_at hl 0 rfl) ?_
  refine lv_iload_n hx hb dX7_relocationsFor_1 rfl (lv_at hl 1 rfl) ?_
  refine lv_i2l (v := x1.toInt64) hx hb dX7_relocationsFor_2 rfl ?_
  refine lv_lconst (v := (0 : Int64)) hx hb dX7_relocationsFor_3 (by decide) ?_
  refine lv_ldc2 (v := (2 : Int64)) hx hb hown (hts _ (List.mem_of_getElem? (i := 1) rfl)) dX7_relocationsFor_4 ?_
  obtain ⟨o7, hc7, h⟩ := az_bnd h
  refine az_callS0 (As := [.long x1.toInt64, .long (0 : Int64), .long (2 : Int64)]) (rest := [.ref (ad 0)]) ⟨hx, hb, hml, hown, hts⟩ hl.1 (kX7_isIn l g x1.toInt64 (0 : Int64) (2 : Int64) o7 hc7) (va_cwS 3 hts gX7_relocationsFor_X7_isIn rfl rfl rfl (by decide +kernel) ⟨Nat.le_of_ble_eq_true rfl, Nat.le_of_ble_eq_true rfl⟩) rfl hK hP hS hA (Nat.le_of_ble_eq_true rfl) dX7_relocationsFor_7 ⟨Nat.zero_le _, Nat.zero_le _⟩ rfl (fun H locs hP hS => ?_)
  refine lv_if_eq (tgt := 29) hx hb dX7_relocationsFor_10 (by decide) (fun c10 => ?_) (fun c10 => ?_)
  · replace h := az_pos c10 h
    refine lv_iconst (v := (1 : Int32)) hx hb dX7_relocationsFor_29 (by decide) ?_
    refine va_put (D := g.1) (ci := 7) (v := .int (1 : Int32)) (ty := .int) (C := RX7) (T := TX7) (N := 5) hx hb hts inX7_relocationsFor_RX7 tyX7 tyX7_ok nmX7 hown hK hP hD hS 0 rfl rfl 3 (Nat.le_of_ble_eq_true rfl) (hts _ (List.mem_of_getElem? (i := 3) rfl)) (fun _ h9 => h9) rfl (by decide +kernel) rfl rfl (Nat.le_of_ble_eq_true rfl) dX7_relocationsFor_30 (fun H locs hP hD hS => ?_)
    obtain ⟨u30, e30⟩ : ∃ w : Nat → Int32, w = upd (V 2) 1 (1 : Int32) := ⟨_, rfl⟩
    have hP : va_P g.1 az_cl (az_cM g ad (va_up V 2 u30)) H := by rw [e30]; exact hP
    have hD : va_D A (az_cM g ad (va_up V 2 u30)) := by rw [e30]; exact hD
    replace h := az_let e30 h
    refine lv_aload_n hx hb dX7_relocationsFor_33 rfl (lv_at hl 0 rfl) ?_
    refine va_get (D := g.1) (ci := 7) (v := .int (u30 1)) (C := RX7) (T := TX7) (N := 5) hx hb hts inX7_relocationsFor_RX7 hown hK hP 0 rfl rfl 3 (Nat.le_of_ble_eq_true rfl) (hts _ (List.mem_of_getElem? (i := 3) rfl)) (fun _ h9 => h9) rfl dX7_relocationsFor_34 ?_
    refine lv_if_le (tgt := 42) hx hb dX7_relocationsFor_37 (by decide) (fun c37 => ?_) (fun c37 => ?_)
    · replace h := az_pos c37 h
      refine lv_iconst (v := (0 : Int32)) hx hb dX7_relocationsFor_42 (by decide) ?_
      refine lv_istore_n (lv' := [(3, .int (0 : Int32)), (0, .ref (ad 0)), (1, .int x1), (2, .int x2)]) hx hb dX7_relocationsFor_43 rfl hl (by decide) rfl (fun ls hl => ?_)
      have hP : va_P g.1 az_cl (az_cM g ad (va_up (va_up (va_up V 0 (V 0)) 2 u30) 3 (V 3))) _ := hP
      have hD : va_D A (az_cM g ad (va_up (va_up (va_up V 0 (V 0)) 2 u30) 3 (V 3))) := hD
      exact hL44 az_fuel (V 0) u30 (V 3) (0 : Int32) _ _ ls h hP hD hS (lv_sub hl [1, 2, 3, 0] rfl)
    · replace h := az_neg c37 h
      refine lv_iconst (v := (0 : Int32)) hx hb dX7_relocationsFor_40 (by decide) ?_
      have hP : va_P g.1 az_cl (az_cM g ad (va_up (va_up (va_up V 0 (V 0)) 2 u30) 3 (V 3))) _ := hP
      have hD : va_D A (az_cM g ad (va_up (va_up (va_up V 0 (V 0)) 2 u30) 3 (V 3))) := hD
      rw [← Option.some.inj h]
      exact az_iret hx hb hr hlocks hK hP hD hS dX7_relocationsFor_41
  · replace h := az_neg c10 h
    refine lv_iload_n hx hb dX7_relocationsFor_13 rfl (lv_at hl 2 rfl) ?_
    refine lv_i2l (v := x2.toInt64) hx hb dX7_relocationsFor_14 rfl ?_
    refine lv_lconst (v := (1 : Int64)) hx hb dX7_relocationsFor_15 (by decide) ?_
    refine lv_ldc2 (v := (120 : Int64)) hx hb hown (hts _ (List.mem_of_getElem? (i := 2) rfl)) dX7_relocationsFor_16 ?_
    obtain ⟨o19, hc19, h⟩ := az_bnd h
    refine az_callS0 (As := [.long x2.toInt64, .long (1 : Int64), .long (120 : Int64)]) (rest := [.ref (ad 0)]) ⟨hx, hb, hml, hown, hts⟩ hl.1 (kX7_isIn l g x2.toInt64 (1 : Int64) (120 : Int64) o19 hc19) (va_cwS 3 hts gX7_relocationsFor_X7_isIn rfl rfl rfl (by decide +kernel) ⟨Nat.le_of_ble_eq_true rfl, Nat.le_of_ble_eq_true rfl⟩) rfl hK hP hS hA (Nat.le_of_ble_eq_true rfl) dX7_relocationsFor_19 ⟨Nat.zero_le _, Nat.zero_le _⟩ rfl (fun H locs hP hS => ?_)
    refine lv_if_eq (tgt := 29) hx hb dX7_relocationsFor_22 (by decide) (fun c22 => ?_) (fun c22 => ?_)
    · replace h := az_pos c22 h
      refine lv_iconst (v := (1 : Int32)) hx hb dX7_relocationsFor_29 (by decide) ?_
      refine va_put (D := g.1) (ci := 7) (v := .int (1 : Int32)) (ty := .int) (C := RX7) (T := TX7) (N := 5) hx hb hts inX7_relocationsFor_RX7 tyX7 tyX7_ok nmX7 hown hK hP hD hS 0 rfl rfl 3 (Nat.le_of_ble_eq_true rfl) (hts _ (List.mem_of_getElem? (i := 3) rfl)) (fun _ h9 => h9) rfl (by decide +kernel) rfl rfl (Nat.le_of_ble_eq_true rfl) dX7_relocationsFor_30 (fun H locs hP hD hS => ?_)
      obtain ⟨u30, e30⟩ : ∃ w : Nat → Int32, w = upd (V 2) 1 (1 : Int32) := ⟨_, rfl⟩
      have hP : va_P g.1 az_cl (az_cM g ad (va_up V 2 u30)) H := by rw [e30]; exact hP
      have hD : va_D A (az_cM g ad (va_up V 2 u30)) := by rw [e30]; exact hD
      replace h := az_let e30 h
      refine lv_aload_n hx hb dX7_relocationsFor_33 rfl (lv_at hl 0 rfl) ?_
      refine va_get (D := g.1) (ci := 7) (v := .int (u30 1)) (C := RX7) (T := TX7) (N := 5) hx hb hts inX7_relocationsFor_RX7 hown hK hP 0 rfl rfl 3 (Nat.le_of_ble_eq_true rfl) (hts _ (List.mem_of_getElem? (i := 3) rfl)) (fun _ h9 => h9) rfl dX7_relocationsFor_34 ?_
      refine lv_if_le (tgt := 42) hx hb dX7_relocationsFor_37 (by decide) (fun c37 => ?_) (fun c37 => ?_)
      · replace h := az_pos c37 h
        refine lv_iconst (v := (0 : Int32)) hx hb dX7_relocationsFor_42 (by decide) ?_
        refine lv_istore_n (lv' := [(3, .int (0 : Int32)), (0, .ref (ad 0)), (1, .int x1), (2, .int x2)]) hx hb dX7_relocationsFor_43 rfl hl (by decide) rfl (fun ls hl => ?_)
        have hP : va_P g.1 az_cl (az_cM g ad (va_up (va_up (va_up V 0 (V 0)) 2 u30) 3 (V 3))) _ := hP
        have hD : va_D A (az_cM g ad (va_up (va_up (va_up V 0 (V 0)) 2 u30) 3 (V 3))) := hD
        exact hL44 az_fuel (V 0) u30 (V 3) (0 : Int32) _ _ ls h hP hD hS (lv_sub hl [1, 2, 3, 0] rfl)
      · replace h := az_neg c37 h
        refine lv_iconst (v := (0 : Int32)) hx hb dX7_relocationsFor_40 (by decide) ?_
        have hP : va_P g.1 az_cl (az_cM g ad (va_up (va_up (va_up V 0 (V 0)) 2 u30) 3 (V 3))) _ := hP
        have hD : va_D A (az_cM g ad (va_up (va_up (va_up V 0 (V 0)) 2 u30) 3 (V 3))) := hD
        rw [← Option.some.inj h]
        exact az_iret hx hb hr hlocks hK hP hD hS dX7_relocationsFor_41
    · replace h := az_neg c22 h
      refine lv_iconst (v := (0 : Int32)) hx hb dX7_relocationsFor_25 (by decide) ?_
      refine lv_goto (tgt := 30) hx hb dX7_relocationsFor_26 (by decide) ?_
      refine va_put (D := g.1) (ci := 7) (v := .int (0 : Int32)) (ty := .int) (C := RX7) (T := TX7) (N := 5) hx hb hts inX7_relocationsFor_RX7 tyX7 tyX7_ok nmX7 hown hK hP hD hS 0 rfl rfl 3 (Nat.le_of_ble_eq_true rfl) (hts _ (List.mem_of_getElem? (i := 3) rfl)) (fun _ h9 => h9) rfl (by decide +kernel) rfl rfl (Nat.le_of_ble_eq_true rfl) dX7_relocationsFor_30 (fun H locs hP hD hS => ?_)
      obtain ⟨u30, e30⟩ : ∃ w : Nat → Int32, w = upd (V 2) 1 (0 : Int32) := ⟨_, rfl⟩
      have hP : va_P g.1 az_cl (az_cM g ad (va_up V 2 u30)) H := by rw [e30]; exact hP
      have hD : va_D A (az_cM g ad (va_up V 2 u30)) := by rw [e30]; exact hD
      replace h := az_let e30 h
      refine lv_aload_n hx hb dX7_relocationsFor_33 rfl (lv_at hl 0 rfl) ?_
      refine va_get (D := g.1) (ci := 7) (v := .int (u30 1)) (C := RX7) (T := TX7) (N := 5) hx hb hts inX7_relocationsFor_RX7 hown hK hP 0 rfl rfl 3 (Nat.le_of_ble_eq_true rfl) (hts _ (List.mem_of_getElem? (i := 3) rfl)) (fun _ h9 => h9) rfl dX7_relocationsFor_34 ?_
      refine lv_if_le (tgt := 42) hx hb dX7_relocationsFor_37 (by decide) (fun c37 => ?_) (fun c37 => ?_)
      · replace h := az_pos c37 h
        refine lv_iconst (v := (0 : Int32)) hx hb dX7_relocationsFor_42 (by decide) ?_
        refine lv_istore_n (lv' := [(3, .int (0 : Int32)), (0, .ref (ad 0)), (1, .int x1), (2, .int x2)]) hx hb dX7_relocationsFor_43 rfl hl (by decide) rfl (fun ls hl => ?_)
        have hP : va_P g.1 az_cl (az_cM g ad (va_up (va_up (va_up V 0 (V 0)) 2 u30) 3 (V 3))) _ := hP
        have hD : va_D A (az_cM g ad (va_up (va_up (va_up V 0 (V 0)) 2 u30) 3 (V 3))) := hD
        exact hL44 az_fuel (V 0) u30 (V 3) (0 : Int32) _ _ ls h hP hD hS (lv_sub hl [1, 2, 3, 0] rfl)
      · replace h := az_neg c37 h
        refine lv_iconst (v := (0 : Int32)) hx hb dX7_relocationsFor_40 (by decide) ?_
        have hP : va_P g.1 az_cl (az_cM g ad (va_up (va_up (va_up V 0 (V 0)) 2 u30) 3 (V 3))) _ := hP
        have hD : va_D A (az_cM g ad (va_up (va_up (va_up V 0 (V 0)) 2 u30) 3 (V 3))) := hD
        rw [← Option.some.inj h]
        exact az_iret hx hb hr hlocks hK hP hD hS dX7_relocationsFor_41

def FX7_advancesToErase_L50 : Nat → az_St → Int32 → (Nat → Int32) → Int32 → Option (Int32 × (Nat → Int32))
  | 0, _, _, _, _ => none
  | n + 1, V, x1, wV2, y2 => (FX7_isGone (va_up V 2 wV2) x1 y2).bind (fun o53 => if o53 = (0 : Int32) then (FX7_advancesToErase_L50 n V x1 wV2 (y2 + (1 : Int32))) else (some (y2, wV2)))
theorem FX7_advancesToErase_L50_s (n : Nat) (V : az_St) (x1 : Int32) (wV2 : Nat → Int32) (y2 : Int32) : FX7_advancesToErase_L50 (n + 1) V x1 wV2 y2 = ((FX7_isGone (va_up V 2 wV2) x1 y2).bind (fun o53 => if o53 = (0 : Int32) then (FX7_advancesToErase_L50 n V x1 wV2 (y2 + (1 : Int32))) else (some (y2, wV2)))) := rfl
def FX7_advancesToErase (V : az_St) (x1 : Int32) : Option (Int32 × (Nat → Int32)) := (FX7_isSegment V x1).bind (fun o3 => if o3 = (0 : Int32) then (az_lt (upd (V 2) 1 (1 : Int32)) (fun u36 => if u36 1 ≤ (0 : Int32) then (FX7_advancesToErase_L50 az_fuel V x1 u36 (0 : Int32)) else (some ((0 : Int32), u36)))) else ((FX7_ofSegment V x1 (0 : Int32)).bind (fun o16 => if o16 = (2 : Int32) then ((FX7_useOf V x1).bind (fun o25 => if o25 ≤ (0 : Int32) then (az_lt (upd (V 2) 1 (0 : Int32)) (fun u36 => if u36 1 ≤ (0 : Int32) then (FX7_advancesToErase_L50 az_fuel V x1 u36 (0 : Int32)) else (some ((0 : Int32), u36)))) else (az_lt (upd (V 2) 1 (2 : Int32)) (fun u36 => if u36 1 ≤ (0 : Int32) then (FX7_advancesToErase_L50 az_fuel V x1 u36 (0 : Int32)) else (some ((0 : Int32), u36)))))) else (az_lt (upd (V 2) 1 (2 : Int32)) (fun u36 => if u36 1 ≤ (0 : Int32) then (FX7_advancesToErase_L50 az_fuel V x1 u36 (0 : Int32)) else (some ((0 : Int32), u36)))))))
theorem inX7_advancesToErase_RX7 : ∀ w ∈ wsX70, w ∈ wsX7_advancesToErase := az_inr [35, 36, 37, 38, 39] (by decide +kernel)
set_option maxHeartbeats 4000000 in
set_option maxRecDepth 100000 in
theorem kX7_advancesToErase (l : Launch) (g : az_G) (ad : Nat → Nat) (V : az_St) (x1 : Int32) (o : Int32 × (Nat → Int32)) (h : FX7_advancesToErase V x1 = some o) : az_I l yX7_advancesToErase wsX7_advancesToErase ({ frames := 4, cells := 0, slots := 0, locals := 91 } : Room) [.ref (ad 0), .int x1] g (az_cM g ad V) o.1 (az_cM g ad (va_up V 2 o.2)) := by
  refine az_body (cc := cX7_advancesToErase) (maxL := 3) (ret := (some .int)) (Qc := fun A => az_QI g (az_cM g ad (va_up V 2 o.2)) o.1 A) (by decide +kernel) rfl (Nat.le_of_ble_eq_true rfl) ?_
  intro p e s m args below meth c A hx hb hr hts hown hml hlocks hA hK hP hD hS ls hl
  have hl : lv_has ls 3 [(0, .ref (ad 0)), (1, .int x1)] := hl
  unfold FX7_advancesToErase at h
  have hL50 : ∀ (n : Nat) (wV2 : Nat → Int32) (y2 : Int32) (H : Heap) (locs : List Loc) (ls : Array Slot), FX7_advancesToErase_L50 n V x1 wV2 y2 = some o → va_P g.1 az_cl (az_cM g ad (va_up V 2 wV2)) H → va_D A (az_cM g ad (va_up V 2 wV2)) → va_S A s.heap H locs → lv_has ls 3 [(0, .ref (ad 0)), (1, .int x1), (2, .int y2)] → W p l e ({ frames := 4, cells := 0, slots := 0, locals := 91 } : Room) s m args below meth c H locs 0 0 (MQ below (az_QI g (az_cM g ad (va_up V 2 o.2)) o.1 A) args s 0 0 A) (F0 m 50 ls []) := by
    intro n
    induction n with
    | zero => intro wV2 y2 H locs ls h; exact az_non h
    | succ n ih =>
      intro wV2 y2 H locs ls h hP hD hS hl
      rw [FX7_advancesToErase_L50_s] at h
      refine lv_aload_n hx hb dX7_advancesToErase_50 rfl (lv_at hl 0 rfl) ?_
      refine lv_iload_n hx hb dX7_advancesToErase_51 rfl (lv_at hl 1 rfl) ?_
      refine lv_iload_n hx hb dX7_advancesToErase_52 rfl (lv_at hl 2 rfl) ?_
      obtain ⟨o53, hc53, h⟩ := az_bnd h
      refine az_callVi (w2 := az_cM g ad (va_up V 2 wV2)) (As := [.int x1, .int y2]) (rest := []) ⟨hx, hb, hml, hown, hts⟩ hl.1 (kX7_isGone l g ad (va_up V 2 wV2) x1 y2 o53 hc53) (cwV 2 hts gX7_advancesToErase_X7_isGone rfl rfl rfl (by decide +kernel) ⟨Nat.le_of_ble_eq_true rfl, Nat.le_of_ble_eq_true rfl⟩) rfl hK hP hD hS hA [0, 1, 2, 3] [] [0, 1, 2, 3] rfl rfl rfl rfl rfl (by decide) rfl rfl rfl 0 rfl rfl rfl (Nat.le_of_ble_eq_true rfl) dX7_advancesToErase_53 ⟨Nat.zero_le _, Nat.zero_le _⟩ rfl (fun H locs hP hD hS => ?_)
      refine lv_if_ne (tgt := 65) hx hb dX7_advancesToErase_56 (by decide) (fun c56 => ?_) (fun c56 => ?_)
      · replace h := az_neg c56 h
        refine lv_iload_n hx hb dX7_advancesToErase_65 rfl (lv_at hl 2 rfl) ?_
        have hP : va_P g.1 az_cl (az_cM g ad (va_up V 2 wV2)) _ := hP
        have hD : va_D A (az_cM g ad (va_up V 2 wV2)) := hD
        rw [← Option.some.inj h]
        exact az_iret hx hb hr hlocks hK hP hD hS dX7_advancesToErase_66
      · replace h := az_pos c56 h
        refine lv_iinc (v := y2 + (1 : Int32)) (lv' := [(2, .int (y2 + (1 : Int32))), (0, .ref (ad 0)), (1, .int x1)]) hx hb dX7_advancesToErase_59 hl (k := 2) rfl (rfl) (by decide) rfl (fun ls hl => ?_)
        refine lv_goto (tgt := 50) hx hb dX7_advancesToErase_62 (by decide) ?_
        have hP : va_P g.1 az_cl (az_cM g ad (va_up V 2 wV2)) _ := hP
        have hD : va_D A (az_cM g ad (va_up V 2 wV2)) := hD
        exact ih wV2 (y2 + (1 : Int32)) _ _ ls h hP hD hS (lv_sub hl [1, 2, 0] rfl)
  refine lv_aload_n hx hb dX7_advancesToErase_0 rfl (lv_at hl 0 rfl) ?_
  refine lv_aload_n hx hb dX7_advancesToErase_1 rfl (lv_at hl 0 rfl) ?_
  refine lv_iload_n hx hb dX7_advancesToErase_2 rfl (lv_at hl 1 rfl) ?_
  obtain ⟨o3, hc3, h⟩ := az_bnd h
  refine az_callVi (w2 := az_cM g ad V) (As := [.int x1]) (rest := [.ref (ad 0)]) ⟨hx, hb, hml, hown, hts⟩ hl.1 (kX7_isSegment l g ad V x1 o3 hc3) (cwV 1 hts gX7_advancesToErase_X7_isSegment rfl rfl rfl (by decide +kernel) ⟨Nat.le_of_ble_eq_true rfl, Nat.le_of_ble_eq_true rfl⟩) rfl hK hP hD hS hA [0, 1, 2, 3] [] [0, 1, 2, 3] rfl rfl rfl rfl rfl (by decide) rfl rfl rfl 0 rfl rfl rfl (Nat.le_of_ble_eq_true rfl) dX7_advancesToErase_3 ⟨Nat.zero_le _, Nat.zero_le _⟩ rfl (fun H locs hP hD hS => ?_)
  refine lv_if_ne (tgt := 13) hx hb dX7_advancesToErase_6 (by decide) (fun c6 => ?_) (fun c6 => ?_)
  · replace h := az_neg c6 h
    refine lv_aload_n hx hb dX7_advancesToErase_13 rfl (lv_at hl 0 rfl) ?_
    refine lv_iload_n hx hb dX7_advancesToErase_14 rfl (lv_at hl 1 rfl) ?_
    refine lv_iconst (v := (0 : Int32)) hx hb dX7_advancesToErase_15 (by decide) ?_
    obtain ⟨o16, hc16, h⟩ := az_bnd h
    refine az_callVi (w2 := az_cM g ad V) (As := [.int x1, .int (0 : Int32)]) (rest := [.ref (ad 0)]) ⟨hx, hb, hml, hown, hts⟩ hl.1 (kX7_ofSegment l g ad V x1 (0 : Int32) o16 hc16) (cwV 2 hts gX7_advancesToErase_X7_ofSegment rfl rfl rfl (by decide +kernel) ⟨Nat.le_of_ble_eq_true rfl, Nat.le_of_ble_eq_true rfl⟩) rfl hK hP hD hS hA [0, 1, 2, 3] [] [0, 1, 2, 3] rfl rfl rfl rfl rfl (by decide) rfl rfl rfl 0 rfl rfl rfl (Nat.le_of_ble_eq_true rfl) dX7_advancesToErase_16 ⟨Nat.zero_le _, Nat.zero_le _⟩ rfl (fun H locs hP hD hS => ?_)
    refine lv_iconst (v := (2 : Int32)) hx hb dX7_advancesToErase_19 (by decide) ?_
    refine lv_icmp_ne (tgt := 31) hx hb dX7_advancesToErase_20 (by decide) (fun c20 => ?_) (fun c20 => ?_)
    · replace h := az_neg c20 h
      refine lv_iconst (v := (2 : Int32)) hx hb dX7_advancesToErase_31 (by decide) ?_
      refine lv_goto (tgt := 36) hx hb dX7_advancesToErase_32 (by decide) ?_
      refine va_put (D := g.1) (ci := 7) (v := .int (2 : Int32)) (ty := .int) (C := RX7) (T := TX7) (N := 5) hx hb hts inX7_advancesToErase_RX7 tyX7 tyX7_ok nmX7 hown hK hP hD hS 0 rfl rfl 3 (Nat.le_of_ble_eq_true rfl) (hts _ (List.mem_of_getElem? (i := 1) rfl)) (fun _ h9 => h9) rfl (by decide +kernel) rfl rfl (Nat.le_of_ble_eq_true rfl) dX7_advancesToErase_36 (fun H locs hP hD hS => ?_)
      obtain ⟨u36, e36⟩ : ∃ w : Nat → Int32, w = upd (V 2) 1 (2 : Int32) := ⟨_, rfl⟩
      have hP : va_P g.1 az_cl (az_cM g ad (va_up V 2 u36)) H := by rw [e36]; exact hP
      have hD : va_D A (az_cM g ad (va_up V 2 u36)) := by rw [e36]; exact hD
      replace h := az_let e36 h
      refine lv_aload_n hx hb dX7_advancesToErase_39 rfl (lv_at hl 0 rfl) ?_
      refine va_get (D := g.1) (ci := 7) (v := .int (u36 1)) (C := RX7) (T := TX7) (N := 5) hx hb hts inX7_advancesToErase_RX7 hown hK hP 0 rfl rfl 3 (Nat.le_of_ble_eq_true rfl) (hts _ (List.mem_of_getElem? (i := 1) rfl)) (fun _ h9 => h9) rfl dX7_advancesToErase_40 ?_
      refine lv_if_le (tgt := 48) hx hb dX7_advancesToErase_43 (by decide) (fun c43 => ?_) (fun c43 => ?_)
      · replace h := az_pos c43 h
        refine lv_iconst (v := (0 : Int32)) hx hb dX7_advancesToErase_48 (by decide) ?_
        refine lv_istore_n (lv' := [(2, .int (0 : Int32)), (0, .ref (ad 0)), (1, .int x1)]) hx hb dX7_advancesToErase_49 rfl hl (by decide) rfl (fun ls hl => ?_)
        have hP : va_P g.1 az_cl (az_cM g ad (va_up V 2 u36)) _ := hP
        have hD : va_D A (az_cM g ad (va_up V 2 u36)) := hD
        exact hL50 az_fuel u36 (0 : Int32) _ _ ls h hP hD hS (lv_sub hl [1, 2, 0] rfl)
      · replace h := az_neg c43 h
        refine lv_iconst (v := (0 : Int32)) hx hb dX7_advancesToErase_46 (by decide) ?_
        have hP : va_P g.1 az_cl (az_cM g ad (va_up V 2 u36)) _ := hP
        have hD : va_D A (az_cM g ad (va_up V 2 u36)) := hD
        rw [← Option.some.inj h]
        exact az_iret hx hb hr hlocks hK hP hD hS dX7_advancesToErase_47
    · replace h := az_pos c20 h
      refine lv_aload_n hx hb dX7_advancesToErase_23 rfl (lv_at hl 0 rfl) ?_
      refine lv_iload_n hx hb dX7_advancesToErase_24 rfl (lv_at hl 1 rfl) ?_
      obtain ⟨o25, hc25, h⟩ := az_bnd h
      refine az_callVi (w2 := az_cM g ad V) (As := [.int x1]) (rest := [.ref (ad 0)]) ⟨hx, hb, hml, hown, hts⟩ hl.1 (kX7_useOf l g ad V x1 o25 hc25) (cwV 1 hts gX7_advancesToErase_X7_useOf rfl rfl rfl (by decide +kernel) ⟨Nat.le_of_ble_eq_true rfl, Nat.le_of_ble_eq_true rfl⟩) rfl hK hP hD hS hA [0, 1, 2, 3] [] [0, 1, 2, 3] rfl rfl rfl rfl rfl (by decide) rfl rfl rfl 0 rfl rfl rfl (Nat.le_of_ble_eq_true rfl) dX7_advancesToErase_25 ⟨Nat.zero_le _, Nat.zero_le _⟩ rfl (fun H locs hP hD hS => ?_)
      refine lv_if_le (tgt := 35) hx hb dX7_advancesToErase_28 (by decide) (fun c28 => ?_) (fun c28 => ?_)
      · replace h := az_pos c28 h
        refine lv_iconst (v := (0 : Int32)) hx hb dX7_advancesToErase_35 (by decide) ?_
        refine va_put (D := g.1) (ci := 7) (v := .int (0 : Int32)) (ty := .int) (C := RX7) (T := TX7) (N := 5) hx hb hts inX7_advancesToErase_RX7 tyX7 tyX7_ok nmX7 hown hK hP hD hS 0 rfl rfl 3 (Nat.le_of_ble_eq_true rfl) (hts _ (List.mem_of_getElem? (i := 1) rfl)) (fun _ h9 => h9) rfl (by decide +kernel) rfl rfl (Nat.le_of_ble_eq_true rfl) dX7_advancesToErase_36 (fun H locs hP hD hS => ?_)
        obtain ⟨u36, e36⟩ : ∃ w : Nat → Int32, w = upd (V 2) 1 (0 : Int32) := ⟨_, rfl⟩
        have hP : va_P g.1 az_cl (az_cM g ad (va_up V 2 u36)) H := by rw [e36]; exact hP
        have hD : va_D A (az_cM g ad (va_up V 2 u36)) := by rw [e36]; exact hD
        replace h := az_let e36 h
        refine lv_aload_n hx hb dX7_advancesToErase_39 rfl (lv_at hl 0 rfl) ?_
        refine va_get (D := g.1) (ci := 7) (v := .int (u36 1)) (C := RX7) (T := TX7) (N := 5) hx hb hts inX7_advancesToErase_RX7 hown hK hP 0 rfl rfl 3 (Nat.le_of_ble_eq_true rfl) (hts _ (List.mem_of_getElem? (i := 1) rfl)) (fun _ h9 => h9) rfl dX7_advancesToErase_40 ?_
        refine lv_if_le (tgt := 48) hx hb dX7_advancesToErase_43 (by decide) (fun c43 => ?_) (fun c43 => ?_)
        · replace h := az_pos c43 h
          refine lv_iconst (v := (0 : Int32)) hx hb dX7_advancesToErase_48 (by decide) ?_
          refine lv_istore_n (lv' := [(2, .int (0 : Int32)), (0, .ref (ad 0)), (1, .int x1)]) hx hb dX7_advancesToErase_49 rfl hl (by decide) rfl (fun ls hl => ?_)
          have hP : va_P g.1 az_cl (az_cM g ad (va_up V 2 u36)) _ := hP
          have hD : va_D A (az_cM g ad (va_up V 2 u36)) := hD
          exact hL50 az_fuel u36 (0 : Int32) _ _ ls h hP hD hS (lv_sub hl [1, 2, 0] rfl)
        · replace h := az_neg c43 h
          refine lv_iconst (v := (0 : Int32)) hx hb dX7_advancesToErase_46 (by decide) ?_
          have hP : va_P g.1 az_cl (az_cM g ad (va_up V 2 u36)) _ := hP
          have hD : va_D A (az_cM g ad (va_up V 2 u36)) := hD
          rw [← Option.some.inj h]
          exact az_iret hx hb hr hlocks hK hP hD hS dX7_advancesToErase_47
      · replace h := az_neg c28 h
        refine lv_iconst (v := (2 : Int32)) hx hb dX7_advancesToErase_31 (by decide) ?_
        refine lv_goto (tgt := 36) hx hb dX7_advancesToErase_32 (by decide) ?_
        refine va_put (D := g.1) (ci := 7) (v := .int (2 : Int32)) (ty := .int) (C := RX7) (T := TX7) (N := 5) hx hb hts inX7_advancesToErase_RX7 tyX7 tyX7_ok nmX7 hown hK hP hD hS 0 rfl rfl 3 (Nat.le_of_ble_eq_true rfl) (hts _ (List.mem_of_getElem? (i := 1) rfl)) (fun _ h9 => h9) rfl (by decide +kernel) rfl rfl (Nat.le_of_ble_eq_true rfl) dX7_advancesToErase_36 (fun H locs hP hD hS => ?_)
        obtain ⟨u36, e36⟩ : ∃ w : Nat → Int32, w = upd (V 2) 1 (2 : Int32) := ⟨_, rfl⟩
        have hP : va_P g.1 az_cl (az_cM g ad (va_up V 2 u36)) H := by rw [e36]; exact hP
        have hD : va_D A (az_cM g ad (va_up V 2 u36)) := by rw [e36]; exact hD
        replace h := az_let e36 h
        refine lv_aload_n hx hb dX7_advancesToErase_39 rfl (lv_at hl 0 rfl) ?_
        refine va_get (D := g.1) (ci := 7) (v := .int (u36 1)) (C := RX7) (T := TX7) (N := 5) hx hb hts inX7_advancesToErase_RX7 hown hK hP 0 rfl rfl 3 (Nat.le_of_ble_eq_true rfl) (hts _ (List.mem_of_getElem? (i := 1) rfl)) (fun _ h9 => h9) rfl dX7_advancesToErase_40 ?_
        refine lv_if_le (tgt := 48) hx hb dX7_advancesToErase_43 (by decide) (fun c43 => ?_) (fun c43 => ?_)
        · replace h := az_pos c43 h
          refine lv_iconst (v := (0 : Int32)) hx hb dX7_advancesToErase_48 (by decide) ?_
          refine lv_istore_n (lv' := [(2, .int (0 : Int32)), (0, .ref (ad 0)), (1, .int x1)]) hx hb dX7_advancesToErase_49 rfl hl (by decide) rfl (fun ls hl => ?_)
          have hP : va_P g.1 az_cl (az_cM g ad (va_up V 2 u36)) _ := hP
          have hD : va_D A (az_cM g ad (va_up V 2 u36)) := hD
          exact hL50 az_fuel u36 (0 : Int32) _ _ ls h hP hD hS (lv_sub hl [1, 2, 0] rfl)
        · replace h := az_neg c43 h
          refine lv_iconst (v := (0 : Int32)) hx hb dX7_advancesToErase_46 (by decide) ?_
          have hP : va_P g.1 az_cl (az_cM g ad (va_up V 2 u36)) _ := hP
          have hD : va_D A (az_cM g ad (va_up V 2 u36)) := hD
          rw [← Option.some.inj h]
          exact az_iret hx hb hr hlocks hK hP hD hS dX7_advancesToErase_47
  · replace h := az_pos c6 h
    refine lv_iconst (v := (1 : Int32)) hx hb dX7_advancesToErase_9 (by decide) ?_
    refine lv_goto (tgt := 36) hx hb dX7_advancesToErase_10 (by decide) ?_
    refine va_put (D := g.1) (ci := 7) (v := .int (1 : Int32)) (ty := .int) (C := RX7) (T := TX7) (N := 5) hx hb hts inX7_advancesToErase_RX7 tyX7 tyX7_ok nmX7 hown hK hP hD hS 0 rfl rfl 3 (Nat.le_of_ble_eq_true rfl) (hts _ (List.mem_of_getElem? (i := 1) rfl)) (fun _ h9 => h9) rfl (by decide +kernel) rfl rfl (Nat.le_of_ble_eq_true rfl) dX7_advancesToErase_36 (fun H locs hP hD hS => ?_)
    obtain ⟨u36, e36⟩ : ∃ w : Nat → Int32, w = upd (V 2) 1 (1 : Int32) := ⟨_, rfl⟩
    have hP : va_P g.1 az_cl (az_cM g ad (va_up V 2 u36)) H := by rw [e36]; exact hP
    have hD : va_D A (az_cM g ad (va_up V 2 u36)) := by rw [e36]; exact hD
    replace h := az_let e36 h
    refine lv_aload_n hx hb dX7_advancesToErase_39 rfl (lv_at hl 0 rfl) ?_
    refine va_get (D := g.1) (ci := 7) (v := .int (u36 1)) (C := RX7) (T := TX7) (N := 5) hx hb hts inX7_advancesToErase_RX7 hown hK hP 0 rfl rfl 3 (Nat.le_of_ble_eq_true rfl) (hts _ (List.mem_of_getElem? (i := 1) rfl)) (fun _ h9 => h9) rfl dX7_advancesToErase_40 ?_
    refine lv_if_le (tgt := 48) hx hb dX7_advancesToErase_43 (by decide) (fun c43 => ?_) (fun c43 => ?_)
    · replace h := az_pos c43 h
      refine lv_iconst (v := (0 : Int32)) hx hb dX7_advancesToErase_48 (by decide) ?_
      refine lv_istore_n (lv' := [(2, .int (0 : Int32)), (0, .ref (ad 0)), (1, .int x1)]) hx hb dX7_advancesToErase_49 rfl hl (by decide) rfl (fun ls hl => ?_)
      have hP : va_P g.1 az_cl (az_cM g ad (va_up V 2 u36)) _ := hP
      have hD : va_D A (az_cM g ad (va_up V 2 u36)) := hD
      exact hL50 az_fuel u36 (0 : Int32) _ _ ls h hP hD hS (lv_sub hl [1, 2, 0] rfl)
    · replace h := az_neg c43 h
      refine lv_iconst (v := (0 : Int32)) hx hb dX7_advancesToErase_46 (by decide) ?_
      have hP : va_P g.1 az_cl (az_cM g ad (va_up V 2 u36)) _ := hP
      have hD : va_D A (az_cM g ad (va_up V 2 u36)) := hD
      rw [← Option.some.inj h]
      exact az_iret hx hb hr hlocks hK hP hD hS dX7_advancesToErase_47

def FX7_regainable (V : az_St) : Option (Int32 × (Nat → Int32)) := az_lt (upd (V 2) 1 (0 : Int32)) (fun u2 => (FX7_allIn (va_up V 2 u2) (1 : Int32)).bind (fun o20 => (FX7_allIn (va_up V 2 u2) (2 : Int32)).bind (fun o26 => some (((((V 0) (0 : Int32).toNatClampNeg) * ((V 0) (1 : Int32).toNatClampNeg)) - o20) - o26, u2))))
theorem inX7_regainable_RX7 : ∀ w ∈ wsX70, w ∈ wsX7_regainable := az_inr [16, 17, 18, 19, 20] (by decide +kernel)
set_option maxHeartbeats 4000000 in
set_option maxRecDepth 100000 in
theorem kX7_regainable (l : Launch) (g : az_G) (ad : Nat → Nat) (V : az_St) (o : Int32 × (Nat → Int32)) (h : FX7_regainable V = some o) : az_I l yX7_regainable wsX7_regainable ({ frames := 3, cells := 0, slots := 0, locals := 69 } : Room) [.ref (ad 0)] g (az_cM g ad V) o.1 (az_cM g ad (va_up V 2 o.2)) := by
  refine az_body (cc := cX7_regainable) (maxL := 1) (ret := (some .int)) (Qc := fun A => az_QI g (az_cM g ad (va_up V 2 o.2)) o.1 A) (by decide +kernel) rfl (Nat.le_of_ble_eq_true rfl) ?_
  intro p e s m args below meth c A hx hb hr hts hown hml hlocks hA hK hP hD hS ls hl
  have hl : lv_has ls 1 [(0, .ref (ad 0))] := hl
  unfold FX7_regainable at h
  refine lv_aload_n hx hb dX7_regainable_0 rfl (lv_at hl 0 rfl) ?_
  refine lv_iconst (v := (0 : Int32)) hx hb dX7_regainable_1 (by decide) ?_
  refine va_put (D := g.1) (ci := 7) (v := .int (0 : Int32)) (ty := .int) (C := RX7) (T := TX7) (N := 5) hx hb hts inX7_regainable_RX7 tyX7 tyX7_ok nmX7 hown hK hP hD hS 0 rfl rfl 3 (Nat.le_of_ble_eq_true rfl) (hts _ (List.mem_of_getElem? (i := 1) rfl)) (fun _ h9 => h9) rfl (by decide +kernel) rfl rfl (Nat.le_of_ble_eq_true rfl) dX7_regainable_2 (fun H locs hP hD hS => ?_)
  obtain ⟨u2, e2⟩ : ∃ w : Nat → Int32, w = upd (V 2) 1 (0 : Int32) := ⟨_, rfl⟩
  have hP : va_P g.1 az_cl (az_cM g ad (va_up V 2 u2)) H := by rw [e2]; exact hP
  have hD : va_D A (az_cM g ad (va_up V 2 u2)) := by rw [e2]; exact hD
  replace h := az_let e2 h
  refine lv_aload_n hx hb dX7_regainable_5 rfl (lv_at hl 0 rfl) ?_
  refine va_get (D := g.1) (ci := 7) (v := .ref (ad 1)) (C := RX7) (T := TX7) (N := 5) hx hb hts inX7_regainable_RX7 hown hK hP 0 rfl rfl 0 (Nat.le_of_ble_eq_true rfl) (hts _ (List.mem_of_getElem? (i := 2) rfl)) (fun _ h9 => h9) rfl dX7_regainable_6 ?_
  refine lv_iconst (v := (0 : Int32)) hx hb dX7_regainable_9 (by decide) ?_
  refine va_iald (D := g.1) (f := (V 0)) hx hb hK hP 1 0 rfl rfl (az_vin (by decide +kernel)) dX7_regainable_10 ?_
  refine lv_aload_n hx hb dX7_regainable_11 rfl (lv_at hl 0 rfl) ?_
  refine va_get (D := g.1) (ci := 7) (v := .ref (ad 1)) (C := RX7) (T := TX7) (N := 5) hx hb hts inX7_regainable_RX7 hown hK hP 0 rfl rfl 0 (Nat.le_of_ble_eq_true rfl) (hts _ (List.mem_of_getElem? (i := 2) rfl)) (fun _ h9 => h9) rfl dX7_regainable_12 ?_
  refine lv_iconst (v := (1 : Int32)) hx hb dX7_regainable_15 (by decide) ?_
  refine va_iald (D := g.1) (f := (V 0)) hx hb hK hP 1 0 rfl rfl (az_vin (by decide +kernel)) dX7_regainable_16 ?_
  refine lv_imul hx hb dX7_regainable_17 ?_
  refine lv_aload_n hx hb dX7_regainable_18 rfl (lv_at hl 0 rfl) ?_
  refine lv_iconst (v := (1 : Int32)) hx hb dX7_regainable_19 (by decide) ?_
  obtain ⟨o20, hc20, h⟩ := az_bnd h
  refine az_callVi (w2 := az_cM g ad (va_up V 2 u2)) (As := [.int (1 : Int32)]) (rest := [.int (((V 0) (0 : Int32).toNatClampNeg) * ((V 0) (1 : Int32).toNatClampNeg))]) ⟨hx, hb, hml, hown, hts⟩ hl.1 (kX7_allIn l g ad (va_up V 2 u2) (1 : Int32) o20 hc20) (cwV 1 hts gX7_regainable_X7_allIn rfl rfl rfl (by decide +kernel) ⟨Nat.le_of_ble_eq_true rfl, Nat.le_of_ble_eq_true rfl⟩) rfl hK hP hD hS hA [0, 1, 2, 3] [] [0, 1, 2, 3] rfl rfl rfl rfl rfl (by decide) rfl rfl rfl 0 rfl rfl rfl (Nat.le_of_ble_eq_true rfl) dX7_regainable_20 ⟨Nat.zero_le _, Nat.zero_le _⟩ rfl (fun H locs hP hD hS => ?_)
  refine lv_isub hx hb dX7_regainable_23 ?_
  refine lv_aload_n hx hb dX7_regainable_24 rfl (lv_at hl 0 rfl) ?_
  refine lv_iconst (v := (2 : Int32)) hx hb dX7_regainable_25 (by decide) ?_
  obtain ⟨o26, hc26, h⟩ := az_bnd h
  refine az_callVi (w2 := az_cM g ad (va_up V 2 u2)) (As := [.int (2 : Int32)]) (rest := [.int ((((V 0) (0 : Int32).toNatClampNeg) * ((V 0) (1 : Int32).toNatClampNeg)) - o20)]) ⟨hx, hb, hml, hown, hts⟩ hl.1 (kX7_allIn l g ad (va_up V 2 u2) (2 : Int32) o26 hc26) (cwV 1 hts gX7_regainable_X7_allIn rfl rfl rfl (by decide +kernel) ⟨Nat.le_of_ble_eq_true rfl, Nat.le_of_ble_eq_true rfl⟩) rfl hK hP hD hS hA [0, 1, 2, 3] [] [0, 1, 2, 3] rfl rfl rfl rfl rfl (by decide) rfl rfl rfl 0 rfl rfl rfl (Nat.le_of_ble_eq_true rfl) dX7_regainable_26 ⟨Nat.zero_le _, Nat.zero_le _⟩ rfl (fun H locs hP hD hS => ?_)
  refine lv_isub hx hb dX7_regainable_29 ?_
  have hP : va_P g.1 az_cl (az_cM g ad (va_up V 2 u2)) _ := hP
  have hD : va_D A (az_cM g ad (va_up V 2 u2)) := hD
  rw [← Option.some.inj h]
  exact az_iret hx hb hr hlocks hK hP hD hS dX7_regainable_30

def FX7_regainableNow (V : az_St) : Option (Int32 × (Nat → Int32)) := az_lt (upd (V 2) 1 (0 : Int32)) (fun u2 => (FX7_goneMany (va_up V 2 u2) (2 : Int32)).bind (fun o7 => some (o7 * ((V 0) (1 : Int32).toNatClampNeg), u2)))
theorem inX7_regainableNow_RX7 : ∀ w ∈ wsX70, w ∈ wsX7_regainableNow := az_inr [32, 33, 34, 35, 36] (by decide +kernel)
set_option maxHeartbeats 4000000 in
set_option maxRecDepth 100000 in
theorem kX7_regainableNow (l : Launch) (g : az_G) (ad : Nat → Nat) (V : az_St) (o : Int32 × (Nat → Int32)) (h : FX7_regainableNow V = some o) : az_I l yX7_regainableNow wsX7_regainableNow ({ frames := 5, cells := 0, slots := 0, locals := 114 } : Room) [.ref (ad 0)] g (az_cM g ad V) o.1 (az_cM g ad (va_up V 2 o.2)) := by
  refine az_body (cc := cX7_regainableNow) (maxL := 1) (ret := (some .int)) (Qc := fun A => az_QI g (az_cM g ad (va_up V 2 o.2)) o.1 A) (by decide +kernel) rfl (Nat.le_of_ble_eq_true rfl) ?_
  intro p e s m args below meth c A hx hb hr hts hown hml hlocks hA hK hP hD hS ls hl
  have hl : lv_has ls 1 [(0, .ref (ad 0))] := hl
  unfold FX7_regainableNow at h
  refine lv_aload_n hx hb dX7_regainableNow_0 rfl (lv_at hl 0 rfl) ?_
  refine lv_iconst (v := (0 : Int32)) hx hb dX7_regainableNow_1 (by decide) ?_
  refine va_put (D := g.1) (ci := 7) (v := .int (0 : Int32)) (ty := .int) (C := RX7) (T := TX7) (N := 5) hx hb hts inX7_regainableNow_RX7 tyX7 tyX7_ok nmX7 hown hK hP hD hS 0 rfl rfl 3 (Nat.le_of_ble_eq_true rfl) (hts _ (List.mem_of_getElem? (i := 1) rfl)) (fun _ h9 => h9) rfl (by decide +kernel) rfl rfl (Nat.le_of_ble_eq_true rfl) dX7_regainableNow_2 (fun H locs hP hD hS => ?_)
  obtain ⟨u2, e2⟩ : ∃ w : Nat → Int32, w = upd (V 2) 1 (0 : Int32) := ⟨_, rfl⟩
  have hP : va_P g.1 az_cl (az_cM g ad (va_up V 2 u2)) H := by rw [e2]; exact hP
  have hD : va_D A (az_cM g ad (va_up V 2 u2)) := by rw [e2]; exact hD
  replace h := az_let e2 h
  refine lv_aload_n hx hb dX7_regainableNow_5 rfl (lv_at hl 0 rfl) ?_
  refine lv_iconst (v := (2 : Int32)) hx hb dX7_regainableNow_6 (by decide) ?_
  obtain ⟨o7, hc7, h⟩ := az_bnd h
  refine az_callVi (w2 := az_cM g ad (va_up V 2 u2)) (As := [.int (2 : Int32)]) (rest := []) ⟨hx, hb, hml, hown, hts⟩ hl.1 (kX7_goneMany l g ad (va_up V 2 u2) (2 : Int32) o7 hc7) (cwV 1 hts gX7_regainableNow_X7_goneMany rfl rfl rfl (by decide +kernel) ⟨Nat.le_of_ble_eq_true rfl, Nat.le_of_ble_eq_true rfl⟩) rfl hK hP hD hS hA [0, 1, 2, 3] [] [0, 1, 2, 3] rfl rfl rfl rfl rfl (by decide) rfl rfl rfl 0 rfl rfl rfl (Nat.le_of_ble_eq_true rfl) dX7_regainableNow_7 ⟨Nat.zero_le _, Nat.zero_le _⟩ rfl (fun H locs hP hD hS => ?_)
  refine lv_aload_n hx hb dX7_regainableNow_10 rfl (lv_at hl 0 rfl) ?_
  refine va_get (D := g.1) (ci := 7) (v := .ref (ad 1)) (C := RX7) (T := TX7) (N := 5) hx hb hts inX7_regainableNow_RX7 hown hK hP 0 rfl rfl 0 (Nat.le_of_ble_eq_true rfl) (hts _ (List.mem_of_getElem? (i := 2) rfl)) (fun _ h9 => h9) rfl dX7_regainableNow_11 ?_
  refine lv_iconst (v := (1 : Int32)) hx hb dX7_regainableNow_14 (by decide) ?_
  refine va_iald (D := g.1) (f := (V 0)) hx hb hK hP 1 0 rfl rfl (az_vin (by decide +kernel)) dX7_regainableNow_15 ?_
  refine lv_imul hx hb dX7_regainableNow_16 ?_
  have hP : va_P g.1 az_cl (az_cM g ad (va_up V 2 u2)) _ := hP
  have hD : va_D A (az_cM g ad (va_up V 2 u2)) := hD
  rw [← Option.some.inj h]
  exact az_iret hx hb hr hlocks hK hP hD hS dX7_regainableNow_17

def FX7_divisor_D : Nat → Int32 → Int32 → Option Int32
  | 0, _, _ => none
  | d + 1, v, w => if w = (0 : Int32) then some v else FX7_divisor_D d w (v - v / w * w)
theorem FX7_divisor_D_s (d : Nat) (v w : Int32) : FX7_divisor_D (d + 1) v w = (if w = (0 : Int32) then some v else FX7_divisor_D d w (v - v / w * w)) := rfl
set_option maxHeartbeats 4000000 in
set_option maxRecDepth 100000 in
theorem kX7_divisor_D (l : Launch) (g : az_G) : ∀ (d : Nat) (v w o : Int32), FX7_divisor_D d v w = some o → az_I l yX7_divisor wsX7_divisor ({ frames := d, cells := 0, slots := 0, locals := 21 * d } : Room) [.int v, .int w] g [] o [] := by
  intro d
  induction d with
  | zero => intro v w o h; exact az_non h
  | succ d ih =>
    intro v w o h
    refine az_body (cc := cX7_divisor) (maxL := 2) (ret := (some .int)) (Qc := fun A => az_QI g ([]) o A) (by decide +kernel) rfl (Nat.le_of_ble_eq_true rfl) ?_
    intro p e s m args below meth c A hx hb hr hts hown hml hlocks hA hK hP hD hS ls hl
    have hl : lv_has ls 2 [(0, .int v), (1, .int w)] := hl
    rw [FX7_divisor_D_s] at h
    refine lv_iload_n hx hb dX7_divisor_0 rfl (lv_at hl 1 rfl) ?_
    refine lv_if_ne (tgt := 8) hx hb dX7_divisor_1 (by decide) (fun c1 => ?_) (fun c1 => ?_)
    · replace h := az_neg c1 h
      refine lv_iload_n hx hb dX7_divisor_8 rfl (lv_at hl 1 rfl) ?_
      refine lv_iload_n hx hb dX7_divisor_9 rfl (lv_at hl 0 rfl) ?_
      refine lv_iload_n hx hb dX7_divisor_10 rfl (lv_at hl 1 rfl) ?_
      refine lv_irem hx hb dX7_divisor_11 c1 ?_
      refine az_callS0 (As := [.int w, .int (v - v / w * w)]) (rest := []) ⟨hx, hb, hml, hown, hts⟩ hl.1 (ih w (v - v / w * w) o h) (va_cwS 2 hts gX7_divisor_X7_divisor rfl rfl rfl (by decide +kernel) ⟨Nat.le_refl _, by show 8 + (2 + 11) + 21 * d ≤ 21 * (d + 1); omega⟩) rfl hK hP hS hA (Nat.le_of_ble_eq_true rfl) dX7_divisor_12 ⟨Nat.zero_le _, Nat.zero_le _⟩ rfl (fun H locs hP hS => ?_)
      exact az_iret hx hb hr hlocks hK hP hD hS dX7_divisor_15
    · replace h := az_pos c1 h
      refine lv_iload_n hx hb dX7_divisor_4 rfl (lv_at hl 0 rfl) ?_
      refine lv_goto (tgt := 15) hx hb dX7_divisor_5 (by decide) ?_
      rw [← Option.some.inj h]
      exact az_iret hx hb hr hlocks hK hP hD hS dX7_divisor_15
def FX7_divisor (x0 x1 : Int32) : Option Int32 := FX7_divisor_D 100 x0 x1
theorem kX7_divisor (l : Launch) (g : az_G) (x0 x1 : Int32) (o : Int32) (h : FX7_divisor x0 x1 = some o) : az_I l yX7_divisor wsX7_divisor ({ frames := 100, cells := 0, slots := 0, locals := 2100 } : Room) [.int x0, .int x1] g ([]) o ([]) := kX7_divisor_D l g 100 x0 x1 o h

def FX7_amplification (V : az_St) (x1 : Int32) : Option (Int32 × (Nat → Int32)) := if (V 0) (6 : Int32).toNatClampNeg = (0 : Int32) then (az_lt (upd (V 2) 1 (1 : Int32)) (fun u16 => if u16 1 ≤ (0 : Int32) then (az_lt (((V 0) (6 : Int32).toNatClampNeg) + ((V 0) (7 : Int32).toNatClampNeg)) (fun z43 => if x1 = (0 : Int32) then ((FX7_divisor z43 ((V 0) (6 : Int32).toNatClampNeg)).bind (fun o67 => if ¬ o67 = (0 : Int32) then some (z43 / o67, u16) else none)) else ((FX7_divisor z43 ((V 0) (6 : Int32).toNatClampNeg)).bind (fun o67 => if ¬ o67 = (0 : Int32) then some (((V 0) (6 : Int32).toNatClampNeg) / o67, u16) else none)))) else (some ((0 : Int32), u16)))) else (az_lt (upd (V 2) 1 (0 : Int32)) (fun u16 => if u16 1 ≤ (0 : Int32) then (az_lt (((V 0) (6 : Int32).toNatClampNeg) + ((V 0) (7 : Int32).toNatClampNeg)) (fun z43 => if x1 = (0 : Int32) then ((FX7_divisor z43 ((V 0) (6 : Int32).toNatClampNeg)).bind (fun o67 => if ¬ o67 = (0 : Int32) then some (z43 / o67, u16) else none)) else ((FX7_divisor z43 ((V 0) (6 : Int32).toNatClampNeg)).bind (fun o67 => if ¬ o67 = (0 : Int32) then some (((V 0) (6 : Int32).toNatClampNeg) / o67, u16) else none)))) else (some ((0 : Int32), u16))))
theorem inX7_amplification_RX7 : ∀ w ∈ wsX70, w ∈ wsX7_amplification := az_inr [7, 8, 9, 10, 11] (by decide +kernel)
set_option maxHeartbeats 4000000 in
set_option maxRecDepth 100000 in
theorem kX7_amplification (l : Launch) (g : az_G) (ad : Nat → Nat) (V : az_St) (x1 : Int32) (o : Int32 × (Nat → Int32)) (h : FX7_amplification V x1 = some o) : az_I l yX7_amplification wsX7_amplification ({ frames := 101, cells := 0, slots := 0, locals := 2121 } : Room) [.ref (ad 0), .int x1] g (az_cM g ad V) o.1 (az_cM g ad (va_up V 2 o.2)) := by
  refine az_body (cc := cX7_amplification) (maxL := 3) (ret := (some .int)) (Qc := fun A => az_QI g (az_cM g ad (va_up V 2 o.2)) o.1 A) (by decide +kernel) rfl (Nat.le_of_ble_eq_true rfl) ?_
  intro p e s m args below meth c A hx hb hr hts hown hml hlocks hA hK hP hD hS ls hl
  have hl : lv_has ls 3 [(0, .ref (ad 0)), (1, .int x1)] := hl
  unfold FX7_amplification at h
  refine lv_aload_n hx hb dX7_amplification_0 rfl (lv_at hl 0 rfl) ?_
  refine lv_aload_n hx hb dX7_amplification_1 rfl (lv_at hl 0 rfl) ?_
  refine va_get (D := g.1) (ci := 7) (v := .ref (ad 1)) (C := RX7) (T := TX7) (N := 5) hx hb hts inX7_amplification_RX7 hown hK hP 0 rfl rfl 0 (Nat.le_of_ble_eq_true rfl) (hts _ (List.mem_of_getElem? (i := 1) rfl)) (fun _ h9 => h9) rfl dX7_amplification_2 ?_
  refine lv_bipush (v := (6 : Int32)) hx hb dX7_amplification_5 (by decide) ?_
  refine va_iald (D := g.1) (f := (V 0)) hx hb hK hP 1 0 rfl rfl (az_vin (by decide +kernel)) dX7_amplification_7 ?_
  refine lv_if_ne (tgt := 15) hx hb dX7_amplification_8 (by decide) (fun c8 => ?_) (fun c8 => ?_)
  · replace h := az_neg c8 h
    refine lv_iconst (v := (0 : Int32)) hx hb dX7_amplification_15 (by decide) ?_
    refine va_put (D := g.1) (ci := 7) (v := .int (0 : Int32)) (ty := .int) (C := RX7) (T := TX7) (N := 5) hx hb hts inX7_amplification_RX7 tyX7 tyX7_ok nmX7 hown hK hP hD hS 0 rfl rfl 3 (Nat.le_of_ble_eq_true rfl) (hts _ (List.mem_of_getElem? (i := 2) rfl)) (fun _ h9 => h9) rfl (by decide +kernel) rfl rfl (Nat.le_of_ble_eq_true rfl) dX7_amplification_16 (fun H locs hP hD hS => ?_)
    obtain ⟨u16, e16⟩ : ∃ w : Nat → Int32, w = upd (V 2) 1 (0 : Int32) := ⟨_, rfl⟩
    have hP : va_P g.1 az_cl (az_cM g ad (va_up V 2 u16)) H := by rw [e16]; exact hP
    have hD : va_D A (az_cM g ad (va_up V 2 u16)) := by rw [e16]; exact hD
    replace h := az_let e16 h
    refine lv_aload_n hx hb dX7_amplification_19 rfl (lv_at hl 0 rfl) ?_
    refine va_get (D := g.1) (ci := 7) (v := .int (u16 1)) (C := RX7) (T := TX7) (N := 5) hx hb hts inX7_amplification_RX7 hown hK hP 0 rfl rfl 3 (Nat.le_of_ble_eq_true rfl) (hts _ (List.mem_of_getElem? (i := 2) rfl)) (fun _ h9 => h9) rfl dX7_amplification_20 ?_
    refine lv_if_le (tgt := 28) hx hb dX7_amplification_23 (by decide) (fun c23 => ?_) (fun c23 => ?_)
    · replace h := az_pos c23 h
      refine lv_aload_n hx hb dX7_amplification_28 rfl (lv_at hl 0 rfl) ?_
      refine va_get (D := g.1) (ci := 7) (v := .ref (ad 1)) (C := RX7) (T := TX7) (N := 5) hx hb hts inX7_amplification_RX7 hown hK hP 0 rfl rfl 0 (Nat.le_of_ble_eq_true rfl) (hts _ (List.mem_of_getElem? (i := 1) rfl)) (fun _ h9 => h9) rfl dX7_amplification_29 ?_
      refine lv_bipush (v := (6 : Int32)) hx hb dX7_amplification_32 (by decide) ?_
      refine va_iald (D := g.1) (f := (V 0)) hx hb hK hP 1 0 rfl rfl (az_vin (by decide +kernel)) dX7_amplification_34 ?_
      refine lv_aload_n hx hb dX7_amplification_35 rfl (lv_at hl 0 rfl) ?_
      refine va_get (D := g.1) (ci := 7) (v := .ref (ad 1)) (C := RX7) (T := TX7) (N := 5) hx hb hts inX7_amplification_RX7 hown hK hP 0 rfl rfl 0 (Nat.le_of_ble_eq_true rfl) (hts _ (List.mem_of_getElem? (i := 1) rfl)) (fun _ h9 => h9) rfl dX7_amplification_36 ?_
      refine lv_bipush (v := (7 : Int32)) hx hb dX7_amplification_39 (by decide) ?_
      refine va_iald (D := g.1) (f := (V 0)) hx hb hK hP 1 0 rfl rfl (az_vin (by decide +kernel)) dX7_amplification_41 ?_
      refine lv_iadd hx hb dX7_amplification_42 ?_
      refine lv_topi (x := ((V 0) (6 : Int32).toNatClampNeg) + ((V 0) (7 : Int32).toNatClampNeg)) (fun z43 e43 => ?_)
      replace h := az_let e43 h
      refine lv_istore_n (lv' := [(2, .int z43), (0, .ref (ad 0)), (1, .int x1)]) hx hb dX7_amplification_43 rfl hl (by decide) rfl (fun ls hl => ?_)
      refine lv_iload_n hx hb dX7_amplification_44 rfl (lv_at hl 2 rfl) ?_
      refine lv_if_eq (tgt := 58) hx hb dX7_amplification_45 (by decide) (fun c45 => ?_) (fun c45 => ?_)
      · replace h := az_pos c45 h
        refine lv_iload_n hx hb dX7_amplification_58 rfl (lv_at hl 0 rfl) ?_
        refine lv_iload_n hx hb dX7_amplification_59 rfl (lv_at hl 0 rfl) ?_
        refine lv_aload_n hx hb dX7_amplification_60 rfl (lv_at hl 1 rfl) ?_
        refine va_get (D := g.1) (ci := 7) (v := .ref (ad 1)) (C := RX7) (T := TX7) (N := 5) hx hb hts inX7_amplification_RX7 hown hK hP 0 rfl rfl 0 (Nat.le_of_ble_eq_true rfl) (hts _ (List.mem_of_getElem? (i := 1) rfl)) (fun _ h9 => h9) rfl dX7_amplification_61 ?_
        refine lv_bipush (v := (6 : Int32)) hx hb dX7_amplification_64 (by decide) ?_
        refine va_iald (D := g.1) (f := (V 0)) hx hb hK hP 1 0 rfl rfl (az_vin (by decide +kernel)) dX7_amplification_66 ?_
        obtain ⟨o67, hc67, h⟩ := az_bnd h
        refine az_callS0 (As := [.int z43, .int ((V 0) (6 : Int32).toNatClampNeg)]) (rest := [.int z43]) ⟨hx, hb, hml, hown, hts⟩ hl.1 (kX7_divisor l g z43 ((V 0) (6 : Int32).toNatClampNeg) o67 hc67) (va_cwS 2 hts gX7_amplification_X7_divisor rfl rfl rfl (by decide +kernel) ⟨Nat.le_of_ble_eq_true rfl, Nat.le_of_ble_eq_true rfl⟩) rfl hK hP hS hA (Nat.le_of_ble_eq_true rfl) dX7_amplification_67 ⟨Nat.zero_le _, Nat.zero_le _⟩ rfl (fun H locs hP hS => ?_)
        obtain ⟨c70, h⟩ := az_ite h
        refine lv_idiv hx hb dX7_amplification_70 c70 ?_
        have hP : va_P g.1 az_cl (az_cM g ad (va_up V 2 u16)) _ := hP
        have hD : va_D A (az_cM g ad (va_up V 2 u16)) := hD
        rw [← Option.some.inj h]
        exact az_iret hx hb hr hlocks hK hP hD hS dX7_amplification_71
      · replace h := az_neg c45 h
        refine lv_aload_n hx hb dX7_amplification_48 rfl (lv_at hl 1 rfl) ?_
        refine va_get (D := g.1) (ci := 7) (v := .ref (ad 1)) (C := RX7) (T := TX7) (N := 5) hx hb hts inX7_amplification_RX7 hown hK hP 0 rfl rfl 0 (Nat.le_of_ble_eq_true rfl) (hts _ (List.mem_of_getElem? (i := 1) rfl)) (fun _ h9 => h9) rfl dX7_amplification_49 ?_
        refine lv_bipush (v := (6 : Int32)) hx hb dX7_amplification_52 (by decide) ?_
        refine va_iald (D := g.1) (f := (V 0)) hx hb hK hP 1 0 rfl rfl (az_vin (by decide +kernel)) dX7_amplification_54 ?_
        refine lv_goto (tgt := 59) hx hb dX7_amplification_55 (by decide) ?_
        refine lv_iload_n hx hb dX7_amplification_59 rfl (lv_at hl 0 rfl) ?_
        refine lv_aload_n hx hb dX7_amplification_60 rfl (lv_at hl 1 rfl) ?_
        refine va_get (D := g.1) (ci := 7) (v := .ref (ad 1)) (C := RX7) (T := TX7) (N := 5) hx hb hts inX7_amplification_RX7 hown hK hP 0 rfl rfl 0 (Nat.le_of_ble_eq_true rfl) (hts _ (List.mem_of_getElem? (i := 1) rfl)) (fun _ h9 => h9) rfl dX7_amplification_61 ?_
        refine lv_bipush (v := (6 : Int32)) hx hb dX7_amplification_64 (by decide) ?_
        refine va_iald (D := g.1) (f := (V 0)) hx hb hK hP 1 0 rfl rfl (az_vin (by decide +kernel)) dX7_amplification_66 ?_
        obtain ⟨o67, hc67, h⟩ := az_bnd h
        refine az_callS0 (As := [.int z43, .int ((V 0) (6 : Int32).toNatClampNeg)]) (rest := [.int ((V 0) (6 : Int32).toNatClampNeg)]) ⟨hx, hb, hml, hown, hts⟩ hl.1 (kX7_divisor l g z43 ((V 0) (6 : Int32).toNatClampNeg) o67 hc67) (va_cwS 2 hts gX7_amplification_X7_divisor rfl rfl rfl (by decide +kernel) ⟨Nat.le_of_ble_eq_true rfl, Nat.le_of_ble_eq_true rfl⟩) rfl hK hP hS hA (Nat.le_of_ble_eq_true rfl) dX7_amplification_67 ⟨Nat.zero_le _, Nat.zero_le _⟩ rfl (fun H locs hP hS => ?_)
        obtain ⟨c70, h⟩ := az_ite h
        refine lv_idiv hx hb dX7_amplification_70 c70 ?_
        have hP : va_P g.1 az_cl (az_cM g ad (va_up V 2 u16)) _ := hP
        have hD : va_D A (az_cM g ad (va_up V 2 u16)) := hD
        rw [← Option.some.inj h]
        exact az_iret hx hb hr hlocks hK hP hD hS dX7_amplification_71
    · replace h := az_neg c23 h
      refine lv_iconst (v := (0 : Int32)) hx hb dX7_amplification_26 (by decide) ?_
      have hP : va_P g.1 az_cl (az_cM g ad (va_up V 2 u16)) _ := hP
      have hD : va_D A (az_cM g ad (va_up V 2 u16)) := hD
      rw [← Option.some.inj h]
      exact az_iret hx hb hr hlocks hK hP hD hS dX7_amplification_27
  · replace h := az_pos c8 h
    refine lv_iconst (v := (1 : Int32)) hx hb dX7_amplification_11 (by decide) ?_
    refine lv_goto (tgt := 16) hx hb dX7_amplification_12 (by decide) ?_
    refine va_put (D := g.1) (ci := 7) (v := .int (1 : Int32)) (ty := .int) (C := RX7) (T := TX7) (N := 5) hx hb hts inX7_amplification_RX7 tyX7 tyX7_ok nmX7 hown hK hP hD hS 0 rfl rfl 3 (Nat.le_of_ble_eq_true rfl) (hts _ (List.mem_of_getElem? (i := 2) rfl)) (fun _ h9 => h9) rfl (by decide +kernel) rfl rfl (Nat.le_of_ble_eq_true rfl) dX7_amplification_16 (fun H locs hP hD hS => ?_)
    obtain ⟨u16, e16⟩ : ∃ w : Nat → Int32, w = upd (V 2) 1 (1 : Int32) := ⟨_, rfl⟩
    have hP : va_P g.1 az_cl (az_cM g ad (va_up V 2 u16)) H := by rw [e16]; exact hP
    have hD : va_D A (az_cM g ad (va_up V 2 u16)) := by rw [e16]; exact hD
    replace h := az_let e16 h
    refine lv_aload_n hx hb dX7_amplification_19 rfl (lv_at hl 0 rfl) ?_
    refine va_get (D := g.1) (ci := 7) (v := .int (u16 1)) (C := RX7) (T := TX7) (N := 5) hx hb hts inX7_amplification_RX7 hown hK hP 0 rfl rfl 3 (Nat.le_of_ble_eq_true rfl) (hts _ (List.mem_of_getElem? (i := 2) rfl)) (fun _ h9 => h9) rfl dX7_amplification_20 ?_
    refine lv_if_le (tgt := 28) hx hb dX7_amplification_23 (by decide) (fun c23 => ?_) (fun c23 => ?_)
    · replace h := az_pos c23 h
      refine lv_aload_n hx hb dX7_amplification_28 rfl (lv_at hl 0 rfl) ?_
      refine va_get (D := g.1) (ci := 7) (v := .ref (ad 1)) (C := RX7) (T := TX7) (N := 5) hx hb hts inX7_amplification_RX7 hown hK hP 0 rfl rfl 0 (Nat.le_of_ble_eq_true rfl) (hts _ (List.mem_of_getElem? (i := 1) rfl)) (fun _ h9 => h9) rfl dX7_amplification_29 ?_
      refine lv_bipush (v := (6 : Int32)) hx hb dX7_amplification_32 (by decide) ?_
      refine va_iald (D := g.1) (f := (V 0)) hx hb hK hP 1 0 rfl rfl (az_vin (by decide +kernel)) dX7_amplification_34 ?_
      refine lv_aload_n hx hb dX7_amplification_35 rfl (lv_at hl 0 rfl) ?_
      refine va_get (D := g.1) (ci := 7) (v := .ref (ad 1)) (C := RX7) (T := TX7) (N := 5) hx hb hts inX7_amplification_RX7 hown hK hP 0 rfl rfl 0 (Nat.le_of_ble_eq_true rfl) (hts _ (List.mem_of_getElem? (i := 1) rfl)) (fun _ h9 => h9) rfl dX7_amplification_36 ?_
      refine lv_bipush (v := (7 : Int32)) hx hb dX7_amplification_39 (by decide) ?_
      refine va_iald (D := g.1) (f := (V 0)) hx hb hK hP 1 0 rfl rfl (az_vin (by decide +kernel)) dX7_amplification_41 ?_
      refine lv_iadd hx hb dX7_amplification_42 ?_
      refine lv_topi (x := ((V 0) (6 : Int32).toNatClampNeg) + ((V 0) (7 : Int32).toNatClampNeg)) (fun z43 e43 => ?_)
      replace h := az_let e43 h
      refine lv_istore_n (lv' := [(2, .int z43), (0, .ref (ad 0)), (1, .int x1)]) hx hb dX7_amplification_43 rfl hl (by decide) rfl (fun ls hl => ?_)
      refine lv_iload_n hx hb dX7_amplification_44 rfl (lv_at hl 2 rfl) ?_
      refine lv_if_eq (tgt := 58) hx hb dX7_amplification_45 (by decide) (fun c45 => ?_) (fun c45 => ?_)
      · replace h := az_pos c45 h
        refine lv_iload_n hx hb dX7_amplification_58 rfl (lv_at hl 0 rfl) ?_
        refine lv_iload_n hx hb dX7_amplification_59 rfl (lv_at hl 0 rfl) ?_
        refine lv_aload_n hx hb dX7_amplification_60 rfl (lv_at hl 1 rfl) ?_
        refine va_get (D := g.1) (ci := 7) (v := .ref (ad 1)) (C := RX7) (T := TX7) (N := 5) hx hb hts inX7_amplification_RX7 hown hK hP 0 rfl rfl 0 (Nat.le_of_ble_eq_true rfl) (hts _ (List.mem_of_getElem? (i := 1) rfl)) (fun _ h9 => h9) rfl dX7_amplification_61 ?_
        refine lv_bipush (v := (6 : Int32)) hx hb dX7_amplification_64 (by decide) ?_
        refine va_iald (D := g.1) (f := (V 0)) hx hb hK hP 1 0 rfl rfl (az_vin (by decide +kernel)) dX7_amplification_66 ?_
        obtain ⟨o67, hc67, h⟩ := az_bnd h
        refine az_callS0 (As := [.int z43, .int ((V 0) (6 : Int32).toNatClampNeg)]) (rest := [.int z43]) ⟨hx, hb, hml, hown, hts⟩ hl.1 (kX7_divisor l g z43 ((V 0) (6 : Int32).toNatClampNeg) o67 hc67) (va_cwS 2 hts gX7_amplification_X7_divisor rfl rfl rfl (by decide +kernel) ⟨Nat.le_of_ble_eq_true rfl, Nat.le_of_ble_eq_true rfl⟩) rfl hK hP hS hA (Nat.le_of_ble_eq_true rfl) dX7_amplification_67 ⟨Nat.zero_le _, Nat.zero_le _⟩ rfl (fun H locs hP hS => ?_)
        obtain ⟨c70, h⟩ := az_ite h
        refine lv_idiv hx hb dX7_amplification_70 c70 ?_
        have hP : va_P g.1 az_cl (az_cM g ad (va_up V 2 u16)) _ := hP
        have hD : va_D A (az_cM g ad (va_up V 2 u16)) := hD
        rw [← Option.some.inj h]
        exact az_iret hx hb hr hlocks hK hP hD hS dX7_amplification_71
      · replace h := az_neg c45 h
        refine lv_aload_n hx hb dX7_amplification_48 rfl (lv_at hl 1 rfl) ?_
        refine va_get (D := g.1) (ci := 7) (v := .ref (ad 1)) (C := RX7) (T := TX7) (N := 5) hx hb hts inX7_amplification_RX7 hown hK hP 0 rfl rfl 0 (Nat.le_of_ble_eq_true rfl) (hts _ (List.mem_of_getElem? (i := 1) rfl)) (fun _ h9 => h9) rfl dX7_amplification_49 ?_
        refine lv_bipush (v := (6 : Int32)) hx hb dX7_amplification_52 (by decide) ?_
        refine va_iald (D := g.1) (f := (V 0)) hx hb hK hP 1 0 rfl rfl (az_vin (by decide +kernel)) dX7_amplification_54 ?_
        refine lv_goto (tgt := 59) hx hb dX7_amplification_55 (by decide) ?_
        refine lv_iload_n hx hb dX7_amplification_59 rfl (lv_at hl 0 rfl) ?_
        refine lv_aload_n hx hb dX7_amplification_60 rfl (lv_at hl 1 rfl) ?_
        refine va_get (D := g.1) (ci := 7) (v := .ref (ad 1)) (C := RX7) (T := TX7) (N := 5) hx hb hts inX7_amplification_RX7 hown hK hP 0 rfl rfl 0 (Nat.le_of_ble_eq_true rfl) (hts _ (List.mem_of_getElem? (i := 1) rfl)) (fun _ h9 => h9) rfl dX7_amplification_61 ?_
        refine lv_bipush (v := (6 : Int32)) hx hb dX7_amplification_64 (by decide) ?_
        refine va_iald (D := g.1) (f := (V 0)) hx hb hK hP 1 0 rfl rfl (az_vin (by decide +kernel)) dX7_amplification_66 ?_
        obtain ⟨o67, hc67, h⟩ := az_bnd h
        refine az_callS0 (As := [.int z43, .int ((V 0) (6 : Int32).toNatClampNeg)]) (rest := [.int ((V 0) (6 : Int32).toNatClampNeg)]) ⟨hx, hb, hml, hown, hts⟩ hl.1 (kX7_divisor l g z43 ((V 0) (6 : Int32).toNatClampNeg) o67 hc67) (va_cwS 2 hts gX7_amplification_X7_divisor rfl rfl rfl (by decide +kernel) ⟨Nat.le_of_ble_eq_true rfl, Nat.le_of_ble_eq_true rfl⟩) rfl hK hP hS hA (Nat.le_of_ble_eq_true rfl) dX7_amplification_67 ⟨Nat.zero_le _, Nat.zero_le _⟩ rfl (fun H locs hP hS => ?_)
        obtain ⟨c70, h⟩ := az_ite h
        refine lv_idiv hx hb dX7_amplification_70 c70 ?_
        have hP : va_P g.1 az_cl (az_cM g ad (va_up V 2 u16)) _ := hP
        have hD : va_D A (az_cM g ad (va_up V 2 u16)) := hD
        rw [← Option.some.inj h]
        exact az_iret hx hb hr hlocks hK hP hD hS dX7_amplification_71
    · replace h := az_neg c23 h
      refine lv_iconst (v := (0 : Int32)) hx hb dX7_amplification_26 (by decide) ?_
      have hP : va_P g.1 az_cl (az_cM g ad (va_up V 2 u16)) _ := hP
      have hD : va_D A (az_cM g ad (va_up V 2 u16)) := hD
      rw [← Option.some.inj h]
      exact az_iret hx hb hr hlocks hK hP hD hS dX7_amplification_27

def FX7_meanAge_L46 : Nat → az_St → Int32 → Int32 → (Nat → Int32) → Int32 → Int32 → Option (Int32 × (Nat → Int32))
  | 0, _, _, _, _, _, _ => none
  | n + 1, V, x1, x2, wV2, y3, y4 => if ((16 : Int32) * x1) + ((V 0) (1 : Int32).toNatClampNeg) ≤ y4 then (if x2 = (0 : Int32) then ((FX7_useOf (va_up V 2 wV2) x1).bind (fun o123 => (FX7_divisor y3 o123).bind (fun o126 => if ¬ o126 = (0 : Int32) then some (y3 / o126, wV2) else none))) else ((FX7_useOf (va_up V 2 wV2) x1).bind (fun o113 => (FX7_useOf (va_up V 2 wV2) x1).bind (fun o123 => (FX7_divisor y3 o123).bind (fun o126 => if ¬ o126 = (0 : Int32) then some (o113 / o126, wV2) else none))))) else ((FX7_ofBlock (va_up V 2 wV2) y4 (0 : Int32)).bind (fun o67 => (FX7_isIn o67.toInt64 (1 : Int64) (2 : Int64)).bind (fun o75 => if o75 = (0 : Int32) then (FX7_meanAge_L46 n V x1 x2 wV2 (y3 + (0 : Int32)) (y4 + (1 : Int32))) else ((FX7_ofBlock (va_up V 2 wV2) y4 (3 : Int32)).bind (fun o91 => FX7_meanAge_L46 n V x1 x2 wV2 (y3 + (((V 0) (4 : Int32).toNatClampNeg) - o91)) (y4 + (1 : Int32)))))))
theorem FX7_meanAge_L46_s (n : Nat) (V : az_St) (x1 : Int32) (x2 : Int32) (wV2 : Nat → Int32) (y3 : Int32) (y4 : Int32) : FX7_meanAge_L46 (n + 1) V x1 x2 wV2 y3 y4 = (if ((16 : Int32) * x1) + ((V 0) (1 : Int32).toNatClampNeg) ≤ y4 then (if x2 = (0 : Int32) then ((FX7_useOf (va_up V 2 wV2) x1).bind (fun o123 => (FX7_divisor y3 o123).bind (fun o126 => if ¬ o126 = (0 : Int32) then some (y3 / o126, wV2) else none))) else ((FX7_useOf (va_up V 2 wV2) x1).bind (fun o113 => (FX7_useOf (va_up V 2 wV2) x1).bind (fun o123 => (FX7_divisor y3 o123).bind (fun o126 => if ¬ o126 = (0 : Int32) then some (o113 / o126, wV2) else none))))) else ((FX7_ofBlock (va_up V 2 wV2) y4 (0 : Int32)).bind (fun o67 => (FX7_isIn o67.toInt64 (1 : Int64) (2 : Int64)).bind (fun o75 => if o75 = (0 : Int32) then (FX7_meanAge_L46 n V x1 x2 wV2 (y3 + (0 : Int32)) (y4 + (1 : Int32))) else ((FX7_ofBlock (va_up V 2 wV2) y4 (3 : Int32)).bind (fun o91 => FX7_meanAge_L46 n V x1 x2 wV2 (y3 + (((V 0) (4 : Int32).toNatClampNeg) - o91)) (y4 + (1 : Int32)))))))) := rfl
def FX7_meanAge (V : az_St) (x1 : Int32) (x2 : Int32) : Option (Int32 × (Nat → Int32)) := (FX7_isSegment V x1).bind (fun o3 => if o3 = (0 : Int32) then (az_lt (upd (V 2) 1 (1 : Int32)) (fun u26 => if u26 1 ≤ (0 : Int32) then (FX7_meanAge_L46 az_fuel V x1 x2 u26 (0 : Int32) ((16 : Int32) * x1)) else (some ((0 : Int32), u26)))) else ((FX7_useOf V x1).bind (fun o15 => if o15 = (0 : Int32) then (az_lt (upd (V 2) 1 (2 : Int32)) (fun u26 => if u26 1 ≤ (0 : Int32) then (FX7_meanAge_L46 az_fuel V x1 x2 u26 (0 : Int32) ((16 : Int32) * x1)) else (some ((0 : Int32), u26)))) else (az_lt (upd (V 2) 1 (0 : Int32)) (fun u26 => if u26 1 ≤ (0 : Int32) then (FX7_meanAge_L46 az_fuel V x1 x2 u26 (0 : Int32) ((16 : Int32) * x1)) else (some ((0 : Int32), u26)))))))
theorem inX7_meanAge_RX7 : ∀ w ∈ wsX70, w ∈ wsX7_meanAge := az_inr [27, 28, 29, 30, 31] (by decide +kernel)
set_option maxHeartbeats 4000000 in
set_option maxRecDepth 100000 in
theorem kX7_meanAge (l : Launch) (g : az_G) (ad : Nat → Nat) (V : az_St) (x1 : Int32) (x2 : Int32) (o : Int32 × (Nat → Int32)) (h : FX7_meanAge V x1 x2 = some o) : az_I l yX7_meanAge wsX7_meanAge ({ frames := 101, cells := 0, slots := 0, locals := 2121 } : Room) [.ref (ad 0), .int x1, .int x2] g (az_cM g ad V) o.1 (az_cM g ad (va_up V 2 o.2)) := by
  refine az_body (cc := cX7_meanAge) (maxL := 5) (ret := (some .int)) (Qc := fun A => az_QI g (az_cM g ad (va_up V 2 o.2)) o.1 A) (by decide +kernel) rfl (Nat.le_of_ble_eq_true rfl) ?_
  intro p e s m args below meth c A hx hb hr hts hown hml hlocks hA hK hP hD hS ls hl
  have hl : lv_has ls 5 [(0, .ref (ad 0)), (1, .int x1), (2, .int x2)] := hl
  unfold FX7_meanAge at h
  have hL46 : ∀ (n : Nat) (wV2 : Nat → Int32) (y3 : Int32) (y4 : Int32) (H : Heap) (locs : List Loc) (ls : Array Slot), FX7_meanAge_L46 n V x1 x2 wV2 y3 y4 = some o → va_P g.1 az_cl (az_cM g ad (va_up V 2 wV2)) H → va_D A (az_cM g ad (va_up V 2 wV2)) → va_S A s.heap H locs → lv_has ls 5 [(0, .ref (ad 0)), (1, .int x1), (2, .int x2), (3, .int y3), (4, .int y4)] → W p l e ({ frames := 101, cells := 0, slots := 0, locals := 2121 } : Room) s m args below meth c H locs 0 0 (MQ below (az_QI g (az_cM g ad (va_up V 2 o.2)) o.1 A) args s 0 0 A) (F0 m 46 ls []) := by
    intro n
    induction n with
    | zero => intro wV2 y3 y4 H locs ls h; exact az_non h
    | succ n ih =>
      intro wV2 y3 y4 H locs ls h hP hD hS hl
      rw [FX7_meanAge_L46_s] at h
      refine lv_iload hx hb dX7_meanAge_46 (lv_at hl 4 rfl) ?_
      refine lv_bipush (v := (16 : Int32)) hx hb dX7_meanAge_48 (by decide) ?_
      refine lv_iload_n hx hb dX7_meanAge_50 rfl (lv_at hl 1 rfl) ?_
      refine lv_imul hx hb dX7_meanAge_51 ?_
      refine lv_aload_n hx hb dX7_meanAge_52 rfl (lv_at hl 0 rfl) ?_
      refine va_get (D := g.1) (ci := 7) (v := .ref (ad 1)) (C := RX7) (T := TX7) (N := 5) hx hb hts inX7_meanAge_RX7 hown hK hP 0 rfl rfl 0 (Nat.le_of_ble_eq_true rfl) (hts _ (List.mem_of_getElem? (i := 2) rfl)) (fun _ h9 => h9) rfl dX7_meanAge_53 ?_
      refine lv_iconst (v := (1 : Int32)) hx hb dX7_meanAge_56 (by decide) ?_
      refine va_iald (D := g.1) (f := (V 0)) hx hb hK hP 1 0 rfl rfl (az_vin (by decide +kernel)) dX7_meanAge_57 ?_
      refine lv_iadd hx hb dX7_meanAge_58 ?_
      refine lv_icmp_ge (tgt := 107) hx hb dX7_meanAge_59 (by decide) (fun c59 => ?_) (fun c59 => ?_)
      · replace h := az_pos c59 h
        refine lv_iload_n hx hb dX7_meanAge_107 rfl (lv_at hl 2 rfl) ?_
        refine lv_if_eq (tgt := 119) hx hb dX7_meanAge_108 (by decide) (fun c108 => ?_) (fun c108 => ?_)
        · replace h := az_pos c108 h
          refine lv_iload_n hx hb dX7_meanAge_119 rfl (lv_at hl 3 rfl) ?_
          refine lv_iload_n hx hb dX7_meanAge_120 rfl (lv_at hl 3 rfl) ?_
          refine lv_aload_n hx hb dX7_meanAge_121 rfl (lv_at hl 0 rfl) ?_
          refine lv_iload_n hx hb dX7_meanAge_122 rfl (lv_at hl 1 rfl) ?_
          obtain ⟨o123, hc123, h⟩ := az_bnd h
          refine az_callVi (w2 := az_cM g ad (va_up V 2 wV2)) (As := [.int x1]) (rest := [.int y3, .int y3]) ⟨hx, hb, hml, hown, hts⟩ hl.1 (kX7_useOf l g ad (va_up V 2 wV2) x1 o123 hc123) (cwV 1 hts gX7_meanAge_X7_useOf rfl rfl rfl (by decide +kernel) ⟨Nat.le_of_ble_eq_true rfl, Nat.le_of_ble_eq_true rfl⟩) rfl hK hP hD hS hA [0, 1, 2, 3] [] [0, 1, 2, 3] rfl rfl rfl rfl rfl (by decide) rfl rfl rfl 0 rfl rfl rfl (Nat.le_of_ble_eq_true rfl) dX7_meanAge_123 ⟨Nat.zero_le _, Nat.zero_le _⟩ rfl (fun H locs hP hD hS => ?_)
          obtain ⟨o126, hc126, h⟩ := az_bnd h
          refine az_callS0 (As := [.int y3, .int o123]) (rest := [.int y3]) ⟨hx, hb, hml, hown, hts⟩ hl.1 (kX7_divisor l g y3 o123 o126 hc126) (va_cwS 2 hts gX7_meanAge_X7_divisor rfl rfl rfl (by decide +kernel) ⟨Nat.le_of_ble_eq_true rfl, Nat.le_of_ble_eq_true rfl⟩) rfl hK hP hS hA (Nat.le_of_ble_eq_true rfl) dX7_meanAge_126 ⟨Nat.zero_le _, Nat.zero_le _⟩ rfl (fun H locs hP hS => ?_)
          obtain ⟨c129, h⟩ := az_ite h
          refine lv_idiv hx hb dX7_meanAge_129 c129 ?_
          have hP : va_P g.1 az_cl (az_cM g ad (va_up V 2 wV2)) _ := hP
          have hD : va_D A (az_cM g ad (va_up V 2 wV2)) := hD
          rw [← Option.some.inj h]
          exact az_iret hx hb hr hlocks hK hP hD hS dX7_meanAge_130
        · replace h := az_neg c108 h
          refine lv_aload_n hx hb dX7_meanAge_111 rfl (lv_at hl 0 rfl) ?_
          refine lv_iload_n hx hb dX7_meanAge_112 rfl (lv_at hl 1 rfl) ?_
          obtain ⟨o113, hc113, h⟩ := az_bnd h
          refine az_callVi (w2 := az_cM g ad (va_up V 2 wV2)) (As := [.int x1]) (rest := []) ⟨hx, hb, hml, hown, hts⟩ hl.1 (kX7_useOf l g ad (va_up V 2 wV2) x1 o113 hc113) (cwV 1 hts gX7_meanAge_X7_useOf rfl rfl rfl (by decide +kernel) ⟨Nat.le_of_ble_eq_true rfl, Nat.le_of_ble_eq_true rfl⟩) rfl hK hP hD hS hA [0, 1, 2, 3] [] [0, 1, 2, 3] rfl rfl rfl rfl rfl (by decide) rfl rfl rfl 0 rfl rfl rfl (Nat.le_of_ble_eq_true rfl) dX7_meanAge_113 ⟨Nat.zero_le _, Nat.zero_le _⟩ rfl (fun H locs hP hD hS => ?_)
          refine lv_goto (tgt := 120) hx hb dX7_meanAge_116 (by decide) ?_
          refine lv_iload_n hx hb dX7_meanAge_120 rfl (lv_at hl 3 rfl) ?_
          refine lv_aload_n hx hb dX7_meanAge_121 rfl (lv_at hl 0 rfl) ?_
          refine lv_iload_n hx hb dX7_meanAge_122 rfl (lv_at hl 1 rfl) ?_
          obtain ⟨o123, hc123, h⟩ := az_bnd h
          refine az_callVi (w2 := az_cM g ad (va_up V 2 wV2)) (As := [.int x1]) (rest := [.int y3, .int o113]) ⟨hx, hb, hml, hown, hts⟩ hl.1 (kX7_useOf l g ad (va_up V 2 wV2) x1 o123 hc123) (cwV 1 hts gX7_meanAge_X7_useOf rfl rfl rfl (by decide +kernel) ⟨Nat.le_of_ble_eq_true rfl, Nat.le_of_ble_eq_true rfl⟩) rfl hK hP hD hS hA [0, 1, 2, 3] [] [0, 1, 2, 3] rfl rfl rfl rfl rfl (by decide) rfl rfl rfl 0 rfl rfl rfl (Nat.le_of_ble_eq_true rfl) dX7_meanAge_123 ⟨Nat.zero_le _, Nat.zero_le _⟩ rfl (fun H locs hP hD hS => ?_)
          obtain ⟨o126, hc126, h⟩ := az_bnd h
          refine az_callS0 (As := [.int y3, .int o123]) (rest := [.int o113]) ⟨hx, hb, hml, hown, hts⟩ hl.1 (kX7_divisor l g y3 o123 o126 hc126) (va_cwS 2 hts gX7_meanAge_X7_divisor rfl rfl rfl (by decide +kernel) ⟨Nat.le_of_ble_eq_true rfl, Nat.le_of_ble_eq_true rfl⟩) rfl hK hP hS hA (Nat.le_of_ble_eq_true rfl) dX7_meanAge_126 ⟨Nat.zero_le _, Nat.zero_le _⟩ rfl (fun H locs hP hS => ?_)
          obtain ⟨c129, h⟩ := az_ite h
          refine lv_idiv hx hb dX7_meanAge_129 c129 ?_
          have hP : va_P g.1 az_cl (az_cM g ad (va_up V 2 wV2)) _ := hP
          have hD : va_D A (az_cM g ad (va_up V 2 wV2)) := hD
          rw [← Option.some.inj h]
          exact az_iret hx hb hr hlocks hK hP hD hS dX7_meanAge_130
      · replace h := az_neg c59 h
        refine lv_iload_n hx hb dX7_meanAge_62 rfl (lv_at hl 3 rfl) ?_
        refine lv_aload_n hx hb dX7_meanAge_63 rfl (lv_at hl 0 rfl) ?_
        refine lv_iload hx hb dX7_meanAge_64 (lv_at hl 4 rfl) ?_
        refine lv_iconst (v := (0 : Int32)) hx hb dX7_meanAge_66 (by decide) ?_
        obtain ⟨o67, hc67, h⟩ := az_bnd h
        refine az_callVi (w2 := az_cM g ad (va_up V 2 wV2)) (As := [.int y4, .int (0 : Int32)]) (rest := [.int y3]) ⟨hx, hb, hml, hown, hts⟩ hl.1 (kX7_ofBlock l g ad (va_up V 2 wV2) y4 (0 : Int32) o67 hc67) (cwV 2 hts gX7_meanAge_X7_ofBlock rfl rfl rfl (by decide +kernel) ⟨Nat.le_of_ble_eq_true rfl, Nat.le_of_ble_eq_true rfl⟩) rfl hK hP hD hS hA [0, 1, 2, 3] [] [0, 1, 2, 3] rfl rfl rfl rfl rfl (by decide) rfl rfl rfl 0 rfl rfl rfl (Nat.le_of_ble_eq_true rfl) dX7_meanAge_67 ⟨Nat.zero_le _, Nat.zero_le _⟩ rfl (fun H locs hP hD hS => ?_)
        refine lv_i2l (v := o67.toInt64) hx hb dX7_meanAge_70 rfl ?_
        refine lv_lconst (v := (1 : Int64)) hx hb dX7_meanAge_71 (by decide) ?_
        refine lv_ldc2 (v := (2 : Int64)) hx hb hown (hts _ (List.mem_of_getElem? (i := 3) rfl)) dX7_meanAge_72 ?_
        obtain ⟨o75, hc75, h⟩ := az_bnd h
        refine az_callS0 (As := [.long o67.toInt64, .long (1 : Int64), .long (2 : Int64)]) (rest := [.int y3]) ⟨hx, hb, hml, hown, hts⟩ hl.1 (kX7_isIn l g o67.toInt64 (1 : Int64) (2 : Int64) o75 hc75) (va_cwS 3 hts gX7_meanAge_X7_isIn rfl rfl rfl (by decide +kernel) ⟨Nat.le_of_ble_eq_true rfl, Nat.le_of_ble_eq_true rfl⟩) rfl hK hP hS hA (Nat.le_of_ble_eq_true rfl) dX7_meanAge_75 ⟨Nat.zero_le _, Nat.zero_le _⟩ rfl (fun H locs hP hS => ?_)
        refine lv_if_eq (tgt := 98) hx hb dX7_meanAge_78 (by decide) (fun c78 => ?_) (fun c78 => ?_)
        · replace h := az_pos c78 h
          refine lv_iconst (v := (0 : Int32)) hx hb dX7_meanAge_98 (by decide) ?_
          refine lv_iadd hx hb dX7_meanAge_99 ?_
          refine lv_istore_n (lv' := [(3, .int (y3 + (0 : Int32))), (0, .ref (ad 0)), (1, .int x1), (2, .int x2), (4, .int y4)]) hx hb dX7_meanAge_100 rfl hl (by decide) rfl (fun ls hl => ?_)
          refine lv_iinc (v := y4 + (1 : Int32)) (lv' := [(4, .int (y4 + (1 : Int32))), (3, .int (y3 + (0 : Int32))), (0, .ref (ad 0)), (1, .int x1), (2, .int x2)]) hx hb dX7_meanAge_101 hl (k := 4) rfl (rfl) (by decide) rfl (fun ls hl => ?_)
          refine lv_goto (tgt := 46) hx hb dX7_meanAge_104 (by decide) ?_
          have hP : va_P g.1 az_cl (az_cM g ad (va_up V 2 wV2)) _ := hP
          have hD : va_D A (az_cM g ad (va_up V 2 wV2)) := hD
          exact ih wV2 (y3 + (0 : Int32)) (y4 + (1 : Int32)) _ _ ls h hP hD hS (lv_sub hl [2, 3, 4, 1, 0] rfl)
        · replace h := az_neg c78 h
          refine lv_aload_n hx hb dX7_meanAge_81 rfl (lv_at hl 0 rfl) ?_
          refine va_get (D := g.1) (ci := 7) (v := .ref (ad 1)) (C := RX7) (T := TX7) (N := 5) hx hb hts inX7_meanAge_RX7 hown hK hP 0 rfl rfl 0 (Nat.le_of_ble_eq_true rfl) (hts _ (List.mem_of_getElem? (i := 2) rfl)) (fun _ h9 => h9) rfl dX7_meanAge_82 ?_
          refine lv_iconst (v := (4 : Int32)) hx hb dX7_meanAge_85 (by decide) ?_
          refine va_iald (D := g.1) (f := (V 0)) hx hb hK hP 1 0 rfl rfl (az_vin (by decide +kernel)) dX7_meanAge_86 ?_
          refine lv_aload_n hx hb dX7_meanAge_87 rfl (lv_at hl 0 rfl) ?_
          refine lv_iload hx hb dX7_meanAge_88 (lv_at hl 4 rfl) ?_
          refine lv_iconst (v := (3 : Int32)) hx hb dX7_meanAge_90 (by decide) ?_
          obtain ⟨o91, hc91, h⟩ := az_bnd h
          refine az_callVi (w2 := az_cM g ad (va_up V 2 wV2)) (As := [.int y4, .int (3 : Int32)]) (rest := [.int ((V 0) (4 : Int32).toNatClampNeg), .int y3]) ⟨hx, hb, hml, hown, hts⟩ hl.1 (kX7_ofBlock l g ad (va_up V 2 wV2) y4 (3 : Int32) o91 hc91) (cwV 2 hts gX7_meanAge_X7_ofBlock rfl rfl rfl (by decide +kernel) ⟨Nat.le_of_ble_eq_true rfl, Nat.le_of_ble_eq_true rfl⟩) rfl hK hP hD hS hA [0, 1, 2, 3] [] [0, 1, 2, 3] rfl rfl rfl rfl rfl (by decide) rfl rfl rfl 0 rfl rfl rfl (Nat.le_of_ble_eq_true rfl) dX7_meanAge_91 ⟨Nat.zero_le _, Nat.zero_le _⟩ rfl (fun H locs hP hD hS => ?_)
          refine lv_isub hx hb dX7_meanAge_94 ?_
          refine lv_goto (tgt := 99) hx hb dX7_meanAge_95 (by decide) ?_
          refine lv_iadd hx hb dX7_meanAge_99 ?_
          refine lv_istore_n (lv' := [(3, .int (y3 + (((V 0) (4 : Int32).toNatClampNeg) - o91))), (0, .ref (ad 0)), (1, .int x1), (2, .int x2), (4, .int y4)]) hx hb dX7_meanAge_100 rfl hl (by decide) rfl (fun ls hl => ?_)
          refine lv_iinc (v := y4 + (1 : Int32)) (lv' := [(4, .int (y4 + (1 : Int32))), (3, .int (y3 + (((V 0) (4 : Int32).toNatClampNeg) - o91))), (0, .ref (ad 0)), (1, .int x1), (2, .int x2)]) hx hb dX7_meanAge_101 hl (k := 4) rfl (rfl) (by decide) rfl (fun ls hl => ?_)
          refine lv_goto (tgt := 46) hx hb dX7_meanAge_104 (by decide) ?_
          have hP : va_P g.1 az_cl (az_cM g ad (va_up V 2 wV2)) _ := hP
          have hD : va_D A (az_cM g ad (va_up V 2 wV2)) := hD
          exact ih wV2 (y3 + (((V 0) (4 : Int32).toNatClampNeg) - o91)) (y4 + (1 : Int32)) _ _ ls h hP hD hS (lv_sub hl [2, 3, 4, 1, 0] rfl)
  refine lv_aload_n hx hb dX7_meanAge_0 rfl (lv_at hl 0 rfl) ?_
  refine lv_aload_n hx hb dX7_meanAge_1 rfl (lv_at hl 0 rfl) ?_
  refine lv_iload_n hx hb dX7_meanAge_2 rfl (lv_at hl 1 rfl) ?_
  obtain ⟨o3, hc3, h⟩ := az_bnd h
  refine az_callVi (w2 := az_cM g ad V) (As := [.int x1]) (rest := [.ref (ad 0)]) ⟨hx, hb, hml, hown, hts⟩ hl.1 (kX7_isSegment l g ad V x1 o3 hc3) (cwV 1 hts gX7_meanAge_X7_isSegment rfl rfl rfl (by decide +kernel) ⟨Nat.le_of_ble_eq_true rfl, Nat.le_of_ble_eq_true rfl⟩) rfl hK hP hD hS hA [0, 1, 2, 3] [] [0, 1, 2, 3] rfl rfl rfl rfl rfl (by decide) rfl rfl rfl 0 rfl rfl rfl (Nat.le_of_ble_eq_true rfl) dX7_meanAge_3 ⟨Nat.zero_le _, Nat.zero_le _⟩ rfl (fun H locs hP hD hS => ?_)
  refine lv_if_ne (tgt := 13) hx hb dX7_meanAge_6 (by decide) (fun c6 => ?_) (fun c6 => ?_)
  · replace h := az_neg c6 h
    refine lv_aload_n hx hb dX7_meanAge_13 rfl (lv_at hl 0 rfl) ?_
    refine lv_iload_n hx hb dX7_meanAge_14 rfl (lv_at hl 1 rfl) ?_
    obtain ⟨o15, hc15, h⟩ := az_bnd h
    refine az_callVi (w2 := az_cM g ad V) (As := [.int x1]) (rest := [.ref (ad 0)]) ⟨hx, hb, hml, hown, hts⟩ hl.1 (kX7_useOf l g ad V x1 o15 hc15) (cwV 1 hts gX7_meanAge_X7_useOf rfl rfl rfl (by decide +kernel) ⟨Nat.le_of_ble_eq_true rfl, Nat.le_of_ble_eq_true rfl⟩) rfl hK hP hD hS hA [0, 1, 2, 3] [] [0, 1, 2, 3] rfl rfl rfl rfl rfl (by decide) rfl rfl rfl 0 rfl rfl rfl (Nat.le_of_ble_eq_true rfl) dX7_meanAge_15 ⟨Nat.zero_le _, Nat.zero_le _⟩ rfl (fun H locs hP hD hS => ?_)
    refine lv_if_ne (tgt := 25) hx hb dX7_meanAge_18 (by decide) (fun c18 => ?_) (fun c18 => ?_)
    · replace h := az_neg c18 h
      refine lv_iconst (v := (0 : Int32)) hx hb dX7_meanAge_25 (by decide) ?_
      refine va_put (D := g.1) (ci := 7) (v := .int (0 : Int32)) (ty := .int) (C := RX7) (T := TX7) (N := 5) hx hb hts inX7_meanAge_RX7 tyX7 tyX7_ok nmX7 hown hK hP hD hS 0 rfl rfl 3 (Nat.le_of_ble_eq_true rfl) (hts _ (List.mem_of_getElem? (i := 1) rfl)) (fun _ h9 => h9) rfl (by decide +kernel) rfl rfl (Nat.le_of_ble_eq_true rfl) dX7_meanAge_26 (fun H locs hP hD hS => ?_)
      obtain ⟨u26, e26⟩ : ∃ w : Nat → Int32, w = upd (V 2) 1 (0 : Int32) := ⟨_, rfl⟩
      have hP : va_P g.1 az_cl (az_cM g ad (va_up V 2 u26)) H := by rw [e26]; exact hP
      have hD : va_D A (az_cM g ad (va_up V 2 u26)) := by rw [e26]; exact hD
      replace h := az_let e26 h
      refine lv_aload_n hx hb dX7_meanAge_29 rfl (lv_at hl 0 rfl) ?_
      refine va_get (D := g.1) (ci := 7) (v := .int (u26 1)) (C := RX7) (T := TX7) (N := 5) hx hb hts inX7_meanAge_RX7 hown hK hP 0 rfl rfl 3 (Nat.le_of_ble_eq_true rfl) (hts _ (List.mem_of_getElem? (i := 1) rfl)) (fun _ h9 => h9) rfl dX7_meanAge_30 ?_
      refine lv_if_le (tgt := 38) hx hb dX7_meanAge_33 (by decide) (fun c33 => ?_) (fun c33 => ?_)
      · replace h := az_pos c33 h
        refine lv_iconst (v := (0 : Int32)) hx hb dX7_meanAge_38 (by decide) ?_
        refine lv_istore_n (lv' := [(3, .int (0 : Int32)), (0, .ref (ad 0)), (1, .int x1), (2, .int x2)]) hx hb dX7_meanAge_39 rfl hl (by decide) rfl (fun ls hl => ?_)
        refine lv_bipush (v := (16 : Int32)) hx hb dX7_meanAge_40 (by decide) ?_
        refine lv_iload_n hx hb dX7_meanAge_42 rfl (lv_at hl 2 rfl) ?_
        refine lv_imul hx hb dX7_meanAge_43 ?_
        refine lv_istore (lv' := [(4, .int ((16 : Int32) * x1)), (3, .int (0 : Int32)), (0, .ref (ad 0)), (1, .int x1), (2, .int x2)]) hx hb dX7_meanAge_44 hl (by decide) rfl (fun ls hl => ?_)
        have hP : va_P g.1 az_cl (az_cM g ad (va_up V 2 u26)) _ := hP
        have hD : va_D A (az_cM g ad (va_up V 2 u26)) := hD
        exact hL46 az_fuel u26 (0 : Int32) ((16 : Int32) * x1) _ _ ls h hP hD hS (lv_sub hl [2, 3, 4, 1, 0] rfl)
      · replace h := az_neg c33 h
        refine lv_iconst (v := (0 : Int32)) hx hb dX7_meanAge_36 (by decide) ?_
        have hP : va_P g.1 az_cl (az_cM g ad (va_up V 2 u26)) _ := hP
        have hD : va_D A (az_cM g ad (va_up V 2 u26)) := hD
        rw [← Option.some.inj h]
        exact az_iret hx hb hr hlocks hK hP hD hS dX7_meanAge_37
    · replace h := az_pos c18 h
      refine lv_iconst (v := (2 : Int32)) hx hb dX7_meanAge_21 (by decide) ?_
      refine lv_goto (tgt := 26) hx hb dX7_meanAge_22 (by decide) ?_
      refine va_put (D := g.1) (ci := 7) (v := .int (2 : Int32)) (ty := .int) (C := RX7) (T := TX7) (N := 5) hx hb hts inX7_meanAge_RX7 tyX7 tyX7_ok nmX7 hown hK hP hD hS 0 rfl rfl 3 (Nat.le_of_ble_eq_true rfl) (hts _ (List.mem_of_getElem? (i := 1) rfl)) (fun _ h9 => h9) rfl (by decide +kernel) rfl rfl (Nat.le_of_ble_eq_true rfl) dX7_meanAge_26 (fun H locs hP hD hS => ?_)
      obtain ⟨u26, e26⟩ : ∃ w : Nat → Int32, w = upd (V 2) 1 (2 : Int32) := ⟨_, rfl⟩
      have hP : va_P g.1 az_cl (az_cM g ad (va_up V 2 u26)) H := by rw [e26]; exact hP
      have hD : va_D A (az_cM g ad (va_up V 2 u26)) := by rw [e26]; exact hD
      replace h := az_let e26 h
      refine lv_aload_n hx hb dX7_meanAge_29 rfl (lv_at hl 0 rfl) ?_
      refine va_get (D := g.1) (ci := 7) (v := .int (u26 1)) (C := RX7) (T := TX7) (N := 5) hx hb hts inX7_meanAge_RX7 hown hK hP 0 rfl rfl 3 (Nat.le_of_ble_eq_true rfl) (hts _ (List.mem_of_getElem? (i := 1) rfl)) (fun _ h9 => h9) rfl dX7_meanAge_30 ?_
      refine lv_if_le (tgt := 38) hx hb dX7_meanAge_33 (by decide) (fun c33 => ?_) (fun c33 => ?_)
      · replace h := az_pos c33 h
        refine lv_iconst (v := (0 : Int32)) hx hb dX7_meanAge_38 (by decide) ?_
        refine lv_istore_n (lv' := [(3, .int (0 : Int32)), (0, .ref (ad 0)), (1, .int x1), (2, .int x2)]) hx hb dX7_meanAge_39 rfl hl (by decide) rfl (fun ls hl => ?_)
        refine lv_bipush (v := (16 : Int32)) hx hb dX7_meanAge_40 (by decide) ?_
        refine lv_iload_n hx hb dX7_meanAge_42 rfl (lv_at hl 2 rfl) ?_
        refine lv_imul hx hb dX7_meanAge_43 ?_
        refine lv_istore (lv' := [(4, .int ((16 : Int32) * x1)), (3, .int (0 : Int32)), (0, .ref (ad 0)), (1, .int x1), (2, .int x2)]) hx hb dX7_meanAge_44 hl (by decide) rfl (fun ls hl => ?_)
        have hP : va_P g.1 az_cl (az_cM g ad (va_up V 2 u26)) _ := hP
        have hD : va_D A (az_cM g ad (va_up V 2 u26)) := hD
        exact hL46 az_fuel u26 (0 : Int32) ((16 : Int32) * x1) _ _ ls h hP hD hS (lv_sub hl [2, 3, 4, 1, 0] rfl)
      · replace h := az_neg c33 h
        refine lv_iconst (v := (0 : Int32)) hx hb dX7_meanAge_36 (by decide) ?_
        have hP : va_P g.1 az_cl (az_cM g ad (va_up V 2 u26)) _ := hP
        have hD : va_D A (az_cM g ad (va_up V 2 u26)) := hD
        rw [← Option.some.inj h]
        exact az_iret hx hb hr hlocks hK hP hD hS dX7_meanAge_37
  · replace h := az_pos c6 h
    refine lv_iconst (v := (1 : Int32)) hx hb dX7_meanAge_9 (by decide) ?_
    refine lv_goto (tgt := 26) hx hb dX7_meanAge_10 (by decide) ?_
    refine va_put (D := g.1) (ci := 7) (v := .int (1 : Int32)) (ty := .int) (C := RX7) (T := TX7) (N := 5) hx hb hts inX7_meanAge_RX7 tyX7 tyX7_ok nmX7 hown hK hP hD hS 0 rfl rfl 3 (Nat.le_of_ble_eq_true rfl) (hts _ (List.mem_of_getElem? (i := 1) rfl)) (fun _ h9 => h9) rfl (by decide +kernel) rfl rfl (Nat.le_of_ble_eq_true rfl) dX7_meanAge_26 (fun H locs hP hD hS => ?_)
    obtain ⟨u26, e26⟩ : ∃ w : Nat → Int32, w = upd (V 2) 1 (1 : Int32) := ⟨_, rfl⟩
    have hP : va_P g.1 az_cl (az_cM g ad (va_up V 2 u26)) H := by rw [e26]; exact hP
    have hD : va_D A (az_cM g ad (va_up V 2 u26)) := by rw [e26]; exact hD
    replace h := az_let e26 h
    refine lv_aload_n hx hb dX7_meanAge_29 rfl (lv_at hl 0 rfl) ?_
    refine va_get (D := g.1) (ci := 7) (v := .int (u26 1)) (C := RX7) (T := TX7) (N := 5) hx hb hts inX7_meanAge_RX7 hown hK hP 0 rfl rfl 3 (Nat.le_of_ble_eq_true rfl) (hts _ (List.mem_of_getElem? (i := 1) rfl)) (fun _ h9 => h9) rfl dX7_meanAge_30 ?_
    refine lv_if_le (tgt := 38) hx hb dX7_meanAge_33 (by decide) (fun c33 => ?_) (fun c33 => ?_)
    · replace h := az_pos c33 h
      refine lv_iconst (v := (0 : Int32)) hx hb dX7_meanAge_38 (by decide) ?_
      refine lv_istore_n (lv' := [(3, .int (0 : Int32)), (0, .ref (ad 0)), (1, .int x1), (2, .int x2)]) hx hb dX7_meanAge_39 rfl hl (by decide) rfl (fun ls hl => ?_)
      refine lv_bipush (v := (16 : Int32)) hx hb dX7_meanAge_40 (by decide) ?_
      refine lv_iload_n hx hb dX7_meanAge_42 rfl (lv_at hl 2 rfl) ?_
      refine lv_imul hx hb dX7_meanAge_43 ?_
      refine lv_istore (lv' := [(4, .int ((16 : Int32) * x1)), (3, .int (0 : Int32)), (0, .ref (ad 0)), (1, .int x1), (2, .int x2)]) hx hb dX7_meanAge_44 hl (by decide) rfl (fun ls hl => ?_)
      have hP : va_P g.1 az_cl (az_cM g ad (va_up V 2 u26)) _ := hP
      have hD : va_D A (az_cM g ad (va_up V 2 u26)) := hD
      exact hL46 az_fuel u26 (0 : Int32) ((16 : Int32) * x1) _ _ ls h hP hD hS (lv_sub hl [2, 3, 4, 1, 0] rfl)
    · replace h := az_neg c33 h
      refine lv_iconst (v := (0 : Int32)) hx hb dX7_meanAge_36 (by decide) ?_
      have hP : va_P g.1 az_cl (az_cM g ad (va_up V 2 u26)) _ := hP
      have hD : va_D A (az_cM g ad (va_up V 2 u26)) := hD
      rw [← Option.some.inj h]
      exact az_iret hx hb hr hlocks hK hP hD hS dX7_meanAge_37

def FX7_wearGap_L16 : Nat → az_St → (Nat → Int32) → Int32 → Int32 → Int32 → Option (Int32 × (Nat → Int32))
  | 0, _, _, _, _, _ => none
  | n + 1, V, wV2, y1, y2, y3 => if (V 0) (0 : Int32).toNatClampNeg ≤ y3 then (some (y2 - y1, wV2)) else ((FX7_ofSegment (va_up V 2 wV2) y3 (2 : Int32)).bind (fun o29 => if y1 ≤ o29 then (if o29 ≤ y2 then (FX7_wearGap_L16 n V wV2 y1 y2 (y3 + (1 : Int32))) else (FX7_wearGap_L16 n V wV2 y1 o29 (y3 + (1 : Int32)))) else (if o29 ≤ y2 then (FX7_wearGap_L16 n V wV2 o29 y2 (y3 + (1 : Int32))) else (FX7_wearGap_L16 n V wV2 o29 o29 (y3 + (1 : Int32))))))
theorem FX7_wearGap_L16_s (n : Nat) (V : az_St) (wV2 : Nat → Int32) (y1 : Int32) (y2 : Int32) (y3 : Int32) : FX7_wearGap_L16 (n + 1) V wV2 y1 y2 y3 = (if (V 0) (0 : Int32).toNatClampNeg ≤ y3 then (some (y2 - y1, wV2)) else ((FX7_ofSegment (va_up V 2 wV2) y3 (2 : Int32)).bind (fun o29 => if y1 ≤ o29 then (if o29 ≤ y2 then (FX7_wearGap_L16 n V wV2 y1 y2 (y3 + (1 : Int32))) else (FX7_wearGap_L16 n V wV2 y1 o29 (y3 + (1 : Int32)))) else (if o29 ≤ y2 then (FX7_wearGap_L16 n V wV2 o29 y2 (y3 + (1 : Int32))) else (FX7_wearGap_L16 n V wV2 o29 o29 (y3 + (1 : Int32))))))) := rfl
def FX7_wearGap (V : az_St) : Option (Int32 × (Nat → Int32)) := az_lt (upd (V 2) 1 (0 : Int32)) (fun u2 => (FX7_ofSegment (va_up V 2 u2) (0 : Int32) (2 : Int32)).bind (fun o8 => FX7_wearGap_L16 az_fuel V u2 o8 o8 (1 : Int32)))
theorem inX7_wearGap_RX7 : ∀ w ∈ wsX70, w ∈ wsX7_wearGap := az_inr [8, 9, 10, 11, 12] (by decide +kernel)
set_option maxHeartbeats 4000000 in
set_option maxRecDepth 100000 in
theorem kX7_wearGap (l : Launch) (g : az_G) (ad : Nat → Nat) (V : az_St) (o : Int32 × (Nat → Int32)) (h : FX7_wearGap V = some o) : az_I l yX7_wearGap wsX7_wearGap ({ frames := 1, cells := 0, slots := 0, locals := 22 } : Room) [.ref (ad 0)] g (az_cM g ad V) o.1 (az_cM g ad (va_up V 2 o.2)) := by
  refine az_body (cc := cX7_wearGap) (maxL := 5) (ret := (some .int)) (Qc := fun A => az_QI g (az_cM g ad (va_up V 2 o.2)) o.1 A) (by decide +kernel) rfl (Nat.le_of_ble_eq_true rfl) ?_
  intro p e s m args below meth c A hx hb hr hts hown hml hlocks hA hK hP hD hS ls hl
  have hl : lv_has ls 5 [(0, .ref (ad 0))] := hl
  unfold FX7_wearGap at h
  have hL16 : ∀ (n : Nat) (wV2 : Nat → Int32) (y1 : Int32) (y2 : Int32) (y3 : Int32) (H : Heap) (locs : List Loc) (ls : Array Slot), FX7_wearGap_L16 n V wV2 y1 y2 y3 = some o → va_P g.1 az_cl (az_cM g ad (va_up V 2 wV2)) H → va_D A (az_cM g ad (va_up V 2 wV2)) → va_S A s.heap H locs → lv_has ls 5 [(0, .ref (ad 0)), (1, .int y1), (2, .int y2), (3, .int y3)] → W p l e ({ frames := 1, cells := 0, slots := 0, locals := 22 } : Room) s m args below meth c H locs 0 0 (MQ below (az_QI g (az_cM g ad (va_up V 2 o.2)) o.1 A) args s 0 0 A) (F0 m 16 ls []) := by
    intro n
    induction n with
    | zero => intro wV2 y1 y2 y3 H locs ls h; exact az_non h
    | succ n ih =>
      intro wV2 y1 y2 y3 H locs ls h hP hD hS hl
      rw [FX7_wearGap_L16_s] at h
      refine lv_iload_n hx hb dX7_wearGap_16 rfl (lv_at hl 3 rfl) ?_
      refine lv_aload_n hx hb dX7_wearGap_17 rfl (lv_at hl 0 rfl) ?_
      refine va_get (D := g.1) (ci := 7) (v := .ref (ad 1)) (C := RX7) (T := TX7) (N := 5) hx hb hts inX7_wearGap_RX7 hown hK hP 0 rfl rfl 0 (Nat.le_of_ble_eq_true rfl) (hts _ (List.mem_of_getElem? (i := 2) rfl)) (fun _ h9 => h9) rfl dX7_wearGap_18 ?_
      refine lv_iconst (v := (0 : Int32)) hx hb dX7_wearGap_21 (by decide) ?_
      refine va_iald (D := g.1) (f := (V 0)) hx hb hK hP 1 0 rfl rfl (az_vin (by decide +kernel)) dX7_wearGap_22 ?_
      refine lv_icmp_ge (tgt := 66) hx hb dX7_wearGap_23 (by decide) (fun c23 => ?_) (fun c23 => ?_)
      · replace h := az_pos c23 h
        refine lv_iload_n hx hb dX7_wearGap_66 rfl (lv_at hl 2 rfl) ?_
        refine lv_iload_n hx hb dX7_wearGap_67 rfl (lv_at hl 1 rfl) ?_
        refine lv_isub hx hb dX7_wearGap_68 ?_
        have hP : va_P g.1 az_cl (az_cM g ad (va_up V 2 wV2)) _ := hP
        have hD : va_D A (az_cM g ad (va_up V 2 wV2)) := hD
        rw [← Option.some.inj h]
        exact az_iret hx hb hr hlocks hK hP hD hS dX7_wearGap_69
      · replace h := az_neg c23 h
        refine lv_aload_n hx hb dX7_wearGap_26 rfl (lv_at hl 0 rfl) ?_
        refine lv_iload_n hx hb dX7_wearGap_27 rfl (lv_at hl 3 rfl) ?_
        refine lv_iconst (v := (2 : Int32)) hx hb dX7_wearGap_28 (by decide) ?_
        obtain ⟨o29, hc29, h⟩ := az_bnd h
        refine az_callVi (w2 := az_cM g ad (va_up V 2 wV2)) (As := [.int y3, .int (2 : Int32)]) (rest := []) ⟨hx, hb, hml, hown, hts⟩ hl.1 (kX7_ofSegment l g ad (va_up V 2 wV2) y3 (2 : Int32) o29 hc29) (cwV 2 hts gX7_wearGap_X7_ofSegment rfl rfl rfl (by decide +kernel) ⟨Nat.le_of_ble_eq_true rfl, Nat.le_of_ble_eq_true rfl⟩) rfl hK hP hD hS hA [0, 1, 2, 3] [] [0, 1, 2, 3] rfl rfl rfl rfl rfl (by decide) rfl rfl rfl 0 rfl rfl rfl (Nat.le_of_ble_eq_true rfl) dX7_wearGap_29 ⟨Nat.zero_le _, Nat.zero_le _⟩ rfl (fun H locs hP hD hS => ?_)
        refine lv_istore (lv' := [(4, .int o29), (0, .ref (ad 0)), (1, .int y1), (2, .int y2), (3, .int y3)]) hx hb dX7_wearGap_32 hl (by decide) rfl (fun ls hl => ?_)
        refine lv_iload hx hb dX7_wearGap_34 (lv_at hl 0 rfl) ?_
        refine lv_iload_n hx hb dX7_wearGap_36 rfl (lv_at hl 2 rfl) ?_
        refine lv_icmp_ge (tgt := 45) hx hb dX7_wearGap_37 (by decide) (fun c37 => ?_) (fun c37 => ?_)
        · replace h := az_pos c37 h
          refine lv_iload_n hx hb dX7_wearGap_45 rfl (lv_at hl 2 rfl) ?_
          refine lv_istore_n (lv' := [(1, .int y1), (4, .int o29), (0, .ref (ad 0)), (2, .int y2), (3, .int y3)]) hx hb dX7_wearGap_46 rfl hl (by decide) rfl (fun ls hl => ?_)
          refine lv_iload hx hb dX7_wearGap_47 (lv_at hl 1 rfl) ?_
          refine lv_iload_n hx hb dX7_wearGap_49 rfl (lv_at hl 3 rfl) ?_
          refine lv_icmp_le (tgt := 58) hx hb dX7_wearGap_50 (by decide) (fun c50 => ?_) (fun c50 => ?_)
          · replace h := az_pos c50 h
            refine lv_iload_n hx hb dX7_wearGap_58 rfl (lv_at hl 3 rfl) ?_
            refine lv_istore_n (lv' := [(2, .int y2), (1, .int y1), (4, .int o29), (0, .ref (ad 0)), (3, .int y3)]) hx hb dX7_wearGap_59 rfl hl (by decide) rfl (fun ls hl => ?_)
            refine lv_iinc (v := y3 + (1 : Int32)) (lv' := [(3, .int (y3 + (1 : Int32))), (2, .int y2), (1, .int y1), (4, .int o29), (0, .ref (ad 0))]) hx hb dX7_wearGap_60 hl (k := 4) rfl (rfl) (by decide) rfl (fun ls hl => ?_)
            refine lv_goto (tgt := 16) hx hb dX7_wearGap_63 (by decide) ?_
            have hP : va_P g.1 az_cl (az_cM g ad (va_up V 2 wV2)) _ := hP
            have hD : va_D A (az_cM g ad (va_up V 2 wV2)) := hD
            exact ih wV2 y1 y2 (y3 + (1 : Int32)) _ _ ls h hP hD hS (lv_sub hl [4, 2, 1, 0] rfl)
          · replace h := az_neg c50 h
            refine lv_iload hx hb dX7_wearGap_53 (lv_at hl 1 rfl) ?_
            refine lv_goto (tgt := 59) hx hb dX7_wearGap_55 (by decide) ?_
            refine lv_istore_n (lv' := [(2, .int o29), (1, .int y1), (4, .int o29), (0, .ref (ad 0)), (3, .int y3)]) hx hb dX7_wearGap_59 rfl hl (by decide) rfl (fun ls hl => ?_)
            refine lv_iinc (v := y3 + (1 : Int32)) (lv' := [(3, .int (y3 + (1 : Int32))), (2, .int o29), (1, .int y1), (4, .int o29), (0, .ref (ad 0))]) hx hb dX7_wearGap_60 hl (k := 4) rfl (rfl) (by decide) rfl (fun ls hl => ?_)
            refine lv_goto (tgt := 16) hx hb dX7_wearGap_63 (by decide) ?_
            have hP : va_P g.1 az_cl (az_cM g ad (va_up V 2 wV2)) _ := hP
            have hD : va_D A (az_cM g ad (va_up V 2 wV2)) := hD
            exact ih wV2 y1 o29 (y3 + (1 : Int32)) _ _ ls h hP hD hS (lv_sub hl [4, 2, 1, 0] rfl)
        · replace h := az_neg c37 h
          refine lv_iload hx hb dX7_wearGap_40 (lv_at hl 0 rfl) ?_
          refine lv_goto (tgt := 46) hx hb dX7_wearGap_42 (by decide) ?_
          refine lv_istore_n (lv' := [(1, .int o29), (4, .int o29), (0, .ref (ad 0)), (2, .int y2), (3, .int y3)]) hx hb dX7_wearGap_46 rfl hl (by decide) rfl (fun ls hl => ?_)
          refine lv_iload hx hb dX7_wearGap_47 (lv_at hl 1 rfl) ?_
          refine lv_iload_n hx hb dX7_wearGap_49 rfl (lv_at hl 3 rfl) ?_
          refine lv_icmp_le (tgt := 58) hx hb dX7_wearGap_50 (by decide) (fun c50 => ?_) (fun c50 => ?_)
          · replace h := az_pos c50 h
            refine lv_iload_n hx hb dX7_wearGap_58 rfl (lv_at hl 3 rfl) ?_
            refine lv_istore_n (lv' := [(2, .int y2), (1, .int o29), (4, .int o29), (0, .ref (ad 0)), (3, .int y3)]) hx hb dX7_wearGap_59 rfl hl (by decide) rfl (fun ls hl => ?_)
            refine lv_iinc (v := y3 + (1 : Int32)) (lv' := [(3, .int (y3 + (1 : Int32))), (2, .int y2), (1, .int o29), (4, .int o29), (0, .ref (ad 0))]) hx hb dX7_wearGap_60 hl (k := 4) rfl (rfl) (by decide) rfl (fun ls hl => ?_)
            refine lv_goto (tgt := 16) hx hb dX7_wearGap_63 (by decide) ?_
            have hP : va_P g.1 az_cl (az_cM g ad (va_up V 2 wV2)) _ := hP
            have hD : va_D A (az_cM g ad (va_up V 2 wV2)) := hD
            exact ih wV2 o29 y2 (y3 + (1 : Int32)) _ _ ls h hP hD hS (lv_sub hl [4, 2, 1, 0] rfl)
          · replace h := az_neg c50 h
            refine lv_iload hx hb dX7_wearGap_53 (lv_at hl 1 rfl) ?_
            refine lv_goto (tgt := 59) hx hb dX7_wearGap_55 (by decide) ?_
            refine lv_istore_n (lv' := [(2, .int o29), (1, .int o29), (4, .int o29), (0, .ref (ad 0)), (3, .int y3)]) hx hb dX7_wearGap_59 rfl hl (by decide) rfl (fun ls hl => ?_)
            refine lv_iinc (v := y3 + (1 : Int32)) (lv' := [(3, .int (y3 + (1 : Int32))), (2, .int o29), (1, .int o29), (4, .int o29), (0, .ref (ad 0))]) hx hb dX7_wearGap_60 hl (k := 4) rfl (rfl) (by decide) rfl (fun ls hl => ?_)
            refine lv_goto (tgt := 16) hx hb dX7_wearGap_63 (by decide) ?_
            have hP : va_P g.1 az_cl (az_cM g ad (va_up V 2 wV2)) _ := hP
            have hD : va_D A (az_cM g ad (va_up V 2 wV2)) := hD
            exact ih wV2 o29 o29 (y3 + (1 : Int32)) _ _ ls h hP hD hS (lv_sub hl [4, 2, 1, 0] rfl)
  refine lv_aload_n hx hb dX7_wearGap_0 rfl (lv_at hl 0 rfl) ?_
  refine lv_iconst (v := (0 : Int32)) hx hb dX7_wearGap_1 (by decide) ?_
  refine va_put (D := g.1) (ci := 7) (v := .int (0 : Int32)) (ty := .int) (C := RX7) (T := TX7) (N := 5) hx hb hts inX7_wearGap_RX7 tyX7 tyX7_ok nmX7 hown hK hP hD hS 0 rfl rfl 3 (Nat.le_of_ble_eq_true rfl) (hts _ (List.mem_of_getElem? (i := 1) rfl)) (fun _ h9 => h9) rfl (by decide +kernel) rfl rfl (Nat.le_of_ble_eq_true rfl) dX7_wearGap_2 (fun H locs hP hD hS => ?_)
  obtain ⟨u2, e2⟩ : ∃ w : Nat → Int32, w = upd (V 2) 1 (0 : Int32) := ⟨_, rfl⟩
  have hP : va_P g.1 az_cl (az_cM g ad (va_up V 2 u2)) H := by rw [e2]; exact hP
  have hD : va_D A (az_cM g ad (va_up V 2 u2)) := by rw [e2]; exact hD
  replace h := az_let e2 h
  refine lv_aload_n hx hb dX7_wearGap_5 rfl (lv_at hl 0 rfl) ?_
  refine lv_iconst (v := (0 : Int32)) hx hb dX7_wearGap_6 (by decide) ?_
  refine lv_iconst (v := (2 : Int32)) hx hb dX7_wearGap_7 (by decide) ?_
  obtain ⟨o8, hc8, h⟩ := az_bnd h
  refine az_callVi (w2 := az_cM g ad (va_up V 2 u2)) (As := [.int (0 : Int32), .int (2 : Int32)]) (rest := []) ⟨hx, hb, hml, hown, hts⟩ hl.1 (kX7_ofSegment l g ad (va_up V 2 u2) (0 : Int32) (2 : Int32) o8 hc8) (cwV 2 hts gX7_wearGap_X7_ofSegment rfl rfl rfl (by decide +kernel) ⟨Nat.le_of_ble_eq_true rfl, Nat.le_of_ble_eq_true rfl⟩) rfl hK hP hD hS hA [0, 1, 2, 3] [] [0, 1, 2, 3] rfl rfl rfl rfl rfl (by decide) rfl rfl rfl 0 rfl rfl rfl (Nat.le_of_ble_eq_true rfl) dX7_wearGap_8 ⟨Nat.zero_le _, Nat.zero_le _⟩ rfl (fun H locs hP hD hS => ?_)
  refine lv_istore_n (lv' := [(1, .int o8), (0, .ref (ad 0))]) hx hb dX7_wearGap_11 rfl hl (by decide) rfl (fun ls hl => ?_)
  refine lv_iload_n hx hb dX7_wearGap_12 rfl (lv_at hl 0 rfl) ?_
  refine lv_istore_n (lv' := [(2, .int o8), (1, .int o8), (0, .ref (ad 0))]) hx hb dX7_wearGap_13 rfl hl (by decide) rfl (fun ls hl => ?_)
  refine lv_iconst (v := (1 : Int32)) hx hb dX7_wearGap_14 (by decide) ?_
  refine lv_istore_n (lv' := [(3, .int (1 : Int32)), (2, .int o8), (1, .int o8), (0, .ref (ad 0))]) hx hb dX7_wearGap_15 rfl hl (by decide) rfl (fun ls hl => ?_)
  have hP : va_P g.1 az_cl (az_cM g ad (va_up V 2 u2)) _ := hP
  have hD : va_D A (az_cM g ad (va_up V 2 u2)) := hD
  exact hL16 az_fuel u2 o8 o8 (1 : Int32) _ _ ls h hP hD hS (lv_sub hl [3, 2, 1, 0] rfl)
