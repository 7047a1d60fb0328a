/-! THE START OF THE LAW -/
set_option maxRecDepth 20000 in
theorem zt_nl : ∀ w ∈ az_nl, w ∈ lw_tbl := by decide +kernel
theorem zt_nlT : ∀ w ∈ az_nl, w.onTables = true := by decide +kernel
set_option maxRecDepth 20000 in
theorem zt_dl : ∀ w ∈ az_dl, w ∈ lw_tbl := by decide +kernel
theorem zt_dlT : ∀ w ∈ az_dl, w.onTables = true := by decide +kernel
def zwS : List Cond := [.instantiable RX0 6, .instantiable RX1 3, .instantiable RX2 2, .instantiable RX3 6, .instantiable RX4 2, .instantiable RX5 11, .instantiable RX6 3, .instantiable RX7 5, .arrayClass .int, .arrayClass .boolean, .arrayClass .long, .arrayOver (.object "AppendedVolume$Volume"), .laysStatic Bundle.tN "UNASSIGNED_STACK" Bundle.steD, .laysStatic Bundle.tN "SUPPRESSED_SENTINEL" Bundle.listD, .initialized Bundle.tN, .castable (az_exc 0) (az_exc 0), .castable (az_exc 1) (az_exc 1), .castable (az_exc 2) (az_exc 2), .castable (az_exc 3) (az_exc 3), .stringRef RX6 (az_si 0) (az_sx 0), .stringRef RX6 (az_si 1) (az_sx 1), .stringRef RX6 (az_si 2) (az_sx 2), .stringRef RX6 (az_si 3) (az_sx 3), .classLink R_law 8 RX6, .classLink R_law 138 RX7, .initialized RX6, .initialized RX7, .methodLink R_law 137 yX6_init, .methodLink R_law 140 yX7_init, .instanceMethod yX6_init, .instanceMethod yX7_init]
set_option maxRecDepth 20000 in
theorem zt_S : ∀ w ∈ zwS, w ∈ lw_tbl := by decide +kernel
theorem az_exc4 (k : Nat) : az_exc k = az_exc 0 ∨ az_exc k = az_exc 1 ∨ az_exc k = az_exc 2 ∨ az_exc k = az_exc 3 := by
  match k with
  | 0 => exact Or.inl rfl
  | 1 => exact Or.inr (Or.inl rfl)
  | 2 => exact Or.inr (Or.inr (Or.inl rfl))
  | 3 => exact Or.inr (Or.inr (Or.inr rfl))
  | k + 4 => exact Or.inl rfl
/-- what a throw needs, of the start -/
theorem start_cx {s : State} {args : Array Value} (hts : ∀ w ∈ zwS, w.before args s = true) (hdl : ∀ w ∈ az_dl, va_Nw w s) (hgv : (Jvm.Cond.and given_1 narrow_1).before args s = true) : ∃ sa : Nat → Nat, az_cx sa (fun q : Nat => s.heap.size ≤ q) s s.heap := by
  have hn := flat_of_before _ hgv
  have ex : ∀ k, (Cond.exactly (.string RX6 k) "java/lang/String").before args s = true → ∃ a, (Term.string RX6 k).eval args s none [] s = some (.ref a) := by
    intro k h
    obtain ⟨a, -, -, -, h1, -⟩ := Cond.exactly_spec (show (Cond.exactly (.string RX6 k) "java/lang/String").holds args s none s [] = true from h)
    exact ⟨a, h1⟩
  obtain ⟨a0, e0⟩ := ex 172 (hn _ (by decide +kernel))
  obtain ⟨a1, e1⟩ := ex 214 (hn _ (by decide +kernel))
  obtain ⟨a2, e2⟩ := ex 232 (hn _ (by decide +kernel))
  obtain ⟨a3, e3⟩ := ex 253 (hn _ (by decide +kernel))
  have hA : ∀ a : Nat, a < s.heap.size → ¬ (fun q : Nat => s.heap.size ≤ q) a := fun a h => Nat.not_le.mpr h
  refine ⟨fun k => match k with | 0 => a0 | 1 => a1 | 2 => a2 | _ => a3, ⟨vx_Zqof (hts _ (List.mem_of_getElem? (i := 12) rfl)) (hts _ (List.mem_of_getElem? (i := 14) rfl)) (hn _ (by decide +kernel)) hA, vx_Zqof (hts _ (List.mem_of_getElem? (i := 13) rfl)) (hts _ (List.mem_of_getElem? (i := 14) rfl)) (hn _ (by decide +kernel)) hA⟩, ?_, ?_, ?_, hdl⟩
  · intro k
    rcases az_exc4 k with e | e | e | e <;> rw [e]
    · exact va_Nw.of rfl (hts _ (List.mem_of_getElem? (i := 15) rfl))
    · exact va_Nw.of rfl (hts _ (List.mem_of_getElem? (i := 16) rfl))
    · exact va_Nw.of rfl (hts _ (List.mem_of_getElem? (i := 17) rfl))
    · exact va_Nw.of rfl (hts _ (List.mem_of_getElem? (i := 18) rfl))
  · intro i j hij
    rcases az_exc4 i with e | e | e | e <;> rcases az_exc4 j with e' | e' | e' | e' <;> rw [e, e'] at hij ⊢ <;> first | exact absurd rfl hij | exact va_Nc.of (hn _ (by decide +kernel))
  · intro k
    match k with
    | 0 => exact vk_R.of (hts _ (List.mem_of_getElem? (i := 19) rfl)) e0
    | 1 => exact vk_R.of (hts _ (List.mem_of_getElem? (i := 20) rfl)) e1
    | 2 => exact vk_R.of (hts _ (List.mem_of_getElem? (i := 21) rfl)) e2
    | k + 3 => exact vk_R.of (hts _ (List.mem_of_getElem? (i := 22) rfl)) e3
/-- the classes and the arrays' classes, of the start -/
theorem start_K {s : State} {args : Array Value} (htl : ∀ w ∈ lw_tbl, w.before args s = true) (hts : ∀ w ∈ zwS, w.before args s = true) : ∃ g : az_G, va_K g.1 az_cl (az_tys g) s := by
  obtain ⟨c0, i0, k0⟩ := u_known (C := RX0) (T := TX0) (N := 6) (n := 6) htl zt_RX0 (hts _ (List.mem_of_getElem? (i := 0) rfl))
  obtain ⟨c1, i1, k1⟩ := u_known (C := RX1) (T := TX1) (N := 3) (n := 3) htl zt_RX1 (hts _ (List.mem_of_getElem? (i := 1) rfl))
  obtain ⟨c2, i2, k2⟩ := u_known (C := RX2) (T := TX2) (N := 2) (n := 2) htl zt_RX2 (hts _ (List.mem_of_getElem? (i := 2) rfl))
  obtain ⟨c3, i3, k3⟩ := u_known (C := RX3) (T := TX3) (N := 6) (n := 6) htl zt_RX3 (hts _ (List.mem_of_getElem? (i := 3) rfl))
  obtain ⟨c4, i4, k4⟩ := u_known (C := RX4) (T := TX4) (N := 2) (n := 2) htl zt_RX4 (hts _ (List.mem_of_getElem? (i := 4) rfl))
  obtain ⟨c5, i5, k5⟩ := u_known (C := RX5) (T := TX5) (N := 11) (n := 11) htl zt_RX5 (hts _ (List.mem_of_getElem? (i := 5) rfl))
  obtain ⟨c6, i6, k6⟩ := u_known (C := RX6) (T := TX6) (N := 3) (n := 3) htl zt_RX6 (hts _ (List.mem_of_getElem? (i := 6) rfl))
  obtain ⟨c7, i7, k7⟩ := u_known (C := RX7) (T := TX7) (N := 5) (n := 5) htl zt_RX7 (hts _ (List.mem_of_getElem? (i := 7) rfl))
  obtain ⟨aI, kI, mI, hI1, hI2, hI3⟩ := Cond.arrayClass_spec (show (Cond.arrayClass .int).holds args s none s [] = true from hts _ (List.mem_of_getElem? (i := 8) rfl))
  obtain ⟨aZ, kZ, mZ, hZ1, hZ2, hZ3⟩ := Cond.arrayClass_spec (show (Cond.arrayClass .boolean).holds args s none s [] = true from hts _ (List.mem_of_getElem? (i := 9) rfl))
  obtain ⟨aJ, kJ, mJ, hJ1, hJ2, hJ3⟩ := Cond.arrayClass_spec (show (Cond.arrayClass .long).holds args s none s [] = true from hts _ (List.mem_of_getElem? (i := 10) rfl))
  obtain ⟨mO, aO, kO, hO1, -, hO2, hO3, hO4⟩ := Cond.arrayOver_spec (n := "AppendedVolume$Volume") (show (Cond.arrayOver (.object "AppendedVolume$Volume")).holds args s none s [] = true from hts _ (List.mem_of_getElem? (i := 11) rfl))
  refine ⟨((fun k => match k with | 0 => c0 | 1 => c1 | 2 => c2 | 3 => c3 | 4 => c4 | 5 => c5 | 6 => c6 | _ => c7, fun k => match k with | 0 => i0 | 1 => i1 | 2 => i2 | 3 => i3 | 4 => i4 | 5 => i5 | 6 => i6 | _ => i7), fun k => match k with | 0 => aI | 1 => aZ | 2 => aJ | _ => aO), ?_, ?_⟩
  · intro k q hq
    match k, hq with
    | 0, hq => cases hq; exact k0
    | 1, hq => cases hq; exact k1
    | 2, hq => cases hq; exact k2
    | 3, hq => cases hq; exact k3
    | 4, hq => cases hq; exact k4
    | 5, hq => cases hq; exact k5
    | 6, hq => cases hq; exact k6
    | 7, hq => cases hq; exact k7
    | k + 8, hq => simp [az_cl] at hq
  · intro k q hq
    match k, hq with
    | 0, hq => cases hq; exact ⟨fun n z => ⟨fun k h => (by cases h), kI, hI2, mI, hI3⟩, hI1⟩
    | 1, hq => cases hq; exact ⟨fun n z => ⟨fun k h => (by cases h), kZ, hZ2, mZ, hZ3⟩, hZ1⟩
    | 2, hq => cases hq; exact ⟨fun n z => ⟨fun k h => (by cases h), kJ, hJ2, mJ, hJ3⟩, hJ1⟩
    | 3, hq => cases hq; exact ⟨fun n z => ⟨fun k h => (by cases h), kO, hO2, mO, hO3⟩, kO, mO, hO2, hO3, hO1, hO4⟩
    | k + 4, hq => simp [az_tys] at hq
set_option maxHeartbeats 8000000 in
set_option maxRecDepth 100000 in
/-- from the entry -/
theorem law_entry {p : Program} {e : Env} {s : State} {m : MethodId} {below : List Frame} {meth : Method} {c : Code} (l : Launch) (hst : l.stackTraces = false) {b L : Nat} {xs : Nat → Int32} (hL : L ≤ 2048) (C0 : lw_At p s m meth c b L xs) : W p l e room_1 s m #[Value.ref b] below meth c s.heap [] 0 0 (lw_Z below #[Value.ref b] s) (entryFrame m ([Value.ref b] : List Value).toArray 7) := by
  obtain ⟨hx, hb, hr, hml, hown, htl, hX, hbl, hlocks, hgv⟩ := id C0
  have hA : ∀ q : Nat, s.heap.size ≤ q → (fun q : Nat => s.heap.size ≤ q) q := fun _ h => h
  have hbA : ¬ (fun q : Nat => s.heap.size ≤ q) b := Nat.not_le.mpr hbl
  have hts : ∀ w ∈ wsL_law, w.before #[Value.ref b] s = true := fun w h => htl w (wsL_law_in w h)
  have hsW : ∀ w ∈ zwS, w.before #[Value.ref b] s = true := fun w h => htl w (zt_S w h)
  have hO : az_nc s := ⟨va_AO.of (hsW _ (List.mem_of_getElem? (i := 11) rfl)), fun w hw => va_Nw.of (zt_nlT w hw) (htl w (zt_nl w hw))⟩
  obtain ⟨sa, hcx⟩ := start_cx hsW (fun w hw => va_Nw.of (zt_dlT w hw) (htl w (zt_dl w hw))) hgv
  obtain ⟨g, hK⟩ := start_K htl hsW
  have h := law_true xs L hL
  unfold F_law at h
  obtain ⟨o1, hF1, h⟩ := az_bnd h
  obtain ⟨o2, hF2, h⟩ := az_bnd h
  have hS : va_S (fun q : Nat => s.heap.size ≤ q) s.heap s.heap [] := va_S.rf
  have hP : va_P g.1 az_cl [] s.heap := fun k q h => by simp at h
  have hD : va_D (fun q : Nat => s.heap.size ≤ q) [] := ⟨fun i j p q h => by simp at h, fun k q h => by simp at h⟩
  have hl := lv_entry ([.ref b]) (n := 7) (Nat.le_of_ble_eq_true rfl)
  rw [lg_entry_eq]
  generalize (lg_sl ([.ref b]) ++ List.replicate (7 - (lg_sl ([.ref b])).length) Slot.unset).toArray = ls at hl ⊢
  have hl : lv_has ls 7 [(0, .ref b)] := hl
  refine va_new (D := g.1) (ci := 6) (fs := [.null, .null, .null]) (C := RX6) (T := TX6) (N := 3) hx hb htl zt_RX6 tyX6 tyX6_ok hown (hsW _ (List.mem_of_getElem? (i := 23) rfl)) (hsW _ (List.mem_of_getElem? (i := 6) rfl)) (hsW _ (List.mem_of_getElem? (i := 25) rfl)) hK hP hD hS hA rfl (fun j hj => by rcases (show j = 0 ∨ j = 1 ∨ j = 2 by omega) with rfl | rfl | rfl <;> rfl) (Nat.le_of_ble_eq_true rfl) (Nat.le_of_ble_eq_true rfl) dL_law_0 (fun p6 H hP hD hS => ?_)
  refine lv_dup hx hb dL_law_3 rfl ?_
  refine az_callN (X := []) ⟨hx, hb, hml, hown, hts⟩ hl.1 (kX6_init l g p6 o1 hF1) (cwI 0 hts gL_law_X6_init rfl rfl rfl (hsW _ (List.mem_of_getElem? (i := 25) rfl)) (hsW _ (List.mem_of_getElem? (i := 27) rfl)) (hsW _ (List.mem_of_getElem? (i := 29) rfl)) rfl (by decide +kernel) ⟨(Nat.le_of_ble_eq_true rfl), (Nat.le_of_ble_eq_true rfl)⟩) hK hO hP hD hS hA (Nat.le_of_ble_eq_true rfl) dL_law_4 ⟨(Nat.le_of_ble_eq_true rfl), (Nat.le_of_ble_eq_true rfl)⟩ (fun u H locs hu hP hD hS => ?_)
  rw [← hu]
  have hP : va_P g.1 az_cl (az_wF g u.1 u.2.1 u.2.2.1 u.2.2.2 (az_V0 o1) az_z (fun _ => az_z) (fun _ => 0)) _ := hP
  have hD : va_D (fun q : Nat => s.heap.size ≤ q) (az_wF g u.1 u.2.1 u.2.2.1 u.2.2.2 (az_V0 o1) az_z (fun _ => az_z) (fun _ => 0)) := hD
  refine lv_astore_n (lv' := [(1, .ref (u.1 0)), (0, .ref b)]) hx hb dL_law_7 rfl hl (by decide) rfl (fun ls hl => ?_)
  refine va_new (D := g.1) (ci := 7) (fs := [.null, .null, .int 0, .int 0, .null]) (C := RX7) (T := TX7) (N := 5) hx hb htl zt_RX7 tyX7 tyX7_ok hown (hsW _ (List.mem_of_getElem? (i := 24) rfl)) (hsW _ (List.mem_of_getElem? (i := 7) rfl)) (hsW _ (List.mem_of_getElem? (i := 26) rfl)) hK hP hD hS hA rfl (fun j hj => by rcases (show j = 0 ∨ j = 1 ∨ j = 2 ∨ j = 3 ∨ j = 4 by omega) with rfl | rfl | rfl | rfl | rfl <;> rfl) (Nat.le_of_ble_eq_true rfl) (Nat.le_of_ble_eq_true rfl) dL_law_8 (fun p7 H hP hD hS => ?_)
  refine lv_dup hx hb dL_law_11 rfl ?_
  refine az_callN (X := az_wF g u.1 u.2.1 u.2.2.1 u.2.2.2 (az_V0 o1) az_z (fun _ => az_z) (fun _ => 0)) ⟨hx, hb, hml, hown, hts⟩ hl.1 (kX7_init l g p7 o2 hF2) (cwI 0 hts gL_law_X7_init rfl rfl rfl (hsW _ (List.mem_of_getElem? (i := 26) rfl)) (hsW _ (List.mem_of_getElem? (i := 28) rfl)) (hsW _ (List.mem_of_getElem? (i := 30) rfl)) rfl (by decide +kernel) ⟨(Nat.le_of_ble_eq_true rfl), (Nat.le_of_ble_eq_true rfl)⟩) hK hO hP hD hS hA (Nat.le_of_ble_eq_true rfl) dL_law_12 ⟨(Nat.le_of_ble_eq_true rfl), (Nat.le_of_ble_eq_true rfl)⟩ (fun ad H locs had hP hD hS => ?_)
  rw [← had]
  have hP : va_P g.1 az_cl (az_wF g u.1 u.2.1 u.2.2.1 u.2.2.2 (az_V0 o1) az_z (fun _ => az_z) (fun _ => 0) ++ az_cM g ad (az_M0 o2)) _ := hP
  have hD : va_D (fun q : Nat => s.heap.size ≤ q) (az_wF g u.1 u.2.1 u.2.2.1 u.2.2.2 (az_V0 o1) az_z (fun _ => az_z) (fun _ => 0) ++ az_cM g ad (az_M0 o2)) := hD
  refine lv_astore_n (lv' := [(2, .ref (ad 0)), (1, .ref (u.1 0)), (0, .ref b)]) hx hb dL_law_15 rfl hl (by decide) rfl (fun ls hl => ?_)
  refine lv_iconst (v := (1 : Int32)) hx hb dL_law_16 (by decide) ?_
  refine va_newa (D := g.1) (atype := .long) (a0 := (1, .inr (.inl (fun _ => 0)))) (N' := 1) hx hb (hsW _ (List.mem_of_getElem? (i := 10) rfl)) rfl hK hP hD hS hA (fun _ => rfl) (by decide) (by decide) (by decide) (Nat.le_of_ble_eq_true rfl) (Nat.le_of_ble_eq_true rfl) dL_law_17 (fun ob cAo H hK9 hP hD hS => ?_)
  obtain rfl := az_sameL hK hK9
  replace hP := az_sndP (w2 := [az_ou g ob (fun _ => 0)] ++ (az_wF g u.1 u.2.1 u.2.2.1 u.2.2.2 (az_V0 o1) az_z (fun _ => az_z) (fun _ => 0) ++ az_cM g ad (az_M0 o2))) List.perm_append_comm hP
  replace hD := az_sndD (w2 := [az_ou g ob (fun _ => 0)] ++ (az_wF g u.1 u.2.1 u.2.2.1 u.2.2.2 (az_V0 o1) az_z (fun _ => az_z) (fun _ => 0) ++ az_cM g ad (az_M0 o2))) List.perm_append_comm hD
  refine lv_astore_n (lv' := [(3, .ref ob), (2, .ref (ad 0)), (1, .ref (u.1 0)), (0, .ref b)]) hx hb dL_law_19 rfl hl (by decide) rfl (fun ls hl => ?_)
  refine lv_iconst (v := (0 : Int32)) hx hb dL_law_20 (by decide) ?_
  refine lv_istore (lv' := [(4, .int 0), (3, .ref ob), (2, .ref (ad 0)), (1, .ref (u.1 0)), (0, .ref b)]) hx hb dL_law_21 hl (by decide) rfl (fun ls hl => ?_)
  exact law_loop l hst hL C0 g sa u.1 u.2.1 u.2.2.1 u.2.2.2 ob ad hX hbl hbA hcx hA hK hts 513 _ _ _ _ _ _ _ _ _ _ _ _ (Nat.le_of_ble_eq_true rfl) (Nat.le_of_ble_eq_true rfl) h hP hD hS (lv_sub hl [4, 3, 2, 1, 0] rfl)
theorem zst0 {l : Launch} (h : l.flags = flags0) : l.stackTraces = false := by
  unfold Launch.stackTraces
  rw [h]
  decide +kernel
/-- from the entry, for every script of at most 2048 ints, the law comes to its end with true -/
theorem whole_start {p : Program} {e : Env} {s : State} {m : MethodId} {below : List Frame} {meth : Method} {c : Code} (l : Launch) (hflags : l.flags = flags0) {b L : Nat} {xs : Nat → Int32} (hL : L ≤ 2048) (C0 : lw_At p s m meth c b L xs) : W p l e room_1 s m #[Value.ref b] below meth c s.heap [] 0 0 (lw_Z below #[Value.ref b] s) (entryFrame m ([Value.ref b] : List Value).toArray 7) := law_entry l (zst0 hflags) hL C0
