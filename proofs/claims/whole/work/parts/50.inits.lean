/-! CONSTRUCTORS: a new object's cells, at addresses that come with the answer -/
def az_z : az_St := fun _ _ => 0
def az_nl : List Cond := [.methodLinkNest RX5 11 yX3_init RX6, .methodLinkNest RX5 20 yX0_init RX6, .methodLinkNest RX5 27 yX2_init RX6, .methodLinkNest RX5 34 yX4_init RX6, .methodLinkNest RX1 17 yX5_init RX6, .methodLinkNest RX6 11 yX5_init RX6]
/-- what a constructor needs of the tables beside its words: the class of the arrays of volumes, the links of private constructors -/
def az_nc (U : State) : Prop := va_AO "AppendedVolume$Volume" U ∧ ∀ w ∈ az_nl, va_Nw w U
theorem az_nc.moved {u U : State} (hW : u.WarmedH U.vm) (h : az_nc u) : az_nc U := ⟨va_AO.moved hW.alike h.1, fun w hw => by
    have h2 := h.2 w hw
    simp only [az_nl, List.mem_cons, List.not_mem_nil, or_false] at hw
    rcases hw with rfl | rfl | rfl | rfl | rfl | rfl <;> exact va_Nw.warmM hW h2⟩
def az_preN (g : az_G) (ws : va_W) (sz : Nat) (U : State) : Prop := az_pre g ws sz U ∧ az_nc U
def az_QN {α : Type} (g : az_G) (post : α → Prop) (cells : α → va_W) (A : Nat → Prop) : Array Value → State → Outcome → State → Prop := va_Qv post (fun u t => az_at g (cells u) A t) A
def az_N {α : Type} (l : Launch) (y : MethodName) (wl : List Cond) (rm : Room) (g : az_G) (h0 : Nat) (e0 : va_E) (post : α → Prop) (cells : α → va_W) (mc ms : Nat) : Prop :=
  ∀ sz : Nat, Met l y wl rm (va_Pc [.ref h0] (az_preN g [(h0, e0)] sz)) (az_QN g post cells (va_A [(h0, e0)] sz)) mc ms (va_A [(h0, e0)] sz)
theorem az_blindN (av : List Value) (g : az_G) (wc : va_W) (sz : Nat) : FrameBlind (va_Pc av (az_preN g wc sz)) := by
  intro a U f mk q
  obtain ⟨q0, ⟨q1, qP, qK, qD⟩, qo⟩ := q
  exact ⟨q0, ⟨q1, qP, va_K.moved (u := U) (U := U.calling f mk a) (Vm.Alike.refl U.vm) qK, qD⟩, az_nc.moved (u := U) (U := U.calling f mk a) (State.WarmedH.refl U) qo⟩
section AN
variable {p : Program} {l : Launch} {e : Env} {R : Room} {s : State} {m : MethodId} {args : Array Value} {below : List Frame} {meth : Method} {c : Code} {H : Heap} {locs : List Loc} {cells slots : Nat} {Q : State → Prop}
theorem az_bodyN {y : MethodName} {wl wl' : List Cond} {rm : Room} {h0 : Nat} {e0 : va_E} {g : az_G} {cc : ByteArray} {maxL mc ms : Nat} {Qc : (Nat → Prop) → Array Value → State → Outcome → State → Prop}
    (hy : plainName y.cls = true) (hw : wl = Cond.code y cc maxL none :: wl') (hav : 1 ≤ maxL) (hyn : y.name = "<init>")
    (body : ∀ (p : Program) (e : Env) (s : State) (m : MethodId) (args : Array Value) (below : List Frame) (meth : Method) (c : Code) (A : Nat → Prop), p.tables.exec = Jvm.exec → c.code = cc → meth.sig.returnType = none → (∀ w ∈ wl, w.before args s = true) → s.vm.findClass y.cls = some m.cls → c.maxLocals = maxL → meth.locks = false → meth.name = "<init>" → az_nc s →
      (∀ q : Nat, s.heap.size ≤ q → A q) → va_K g.1 az_cl (az_tys g) s → va_P g.1 az_cl [(h0, e0)] s.heap → va_D A [(h0, e0)] → va_S A s.heap s.heap [] → ∀ ls : Array Slot, lv_has ls maxL (lv_args 0 [.ref h0]) → W p l e rm s m args below meth c s.heap [] 0 0 (MQ below (Qc A) args s mc ms A) (F0 m 0 ls [])) :
    ∀ sz : Nat, Met l y wl rm (va_Pc [.ref h0] (az_preN g [(h0, e0)] sz)) (Qc (va_A [(h0, e0)] sz)) mc ms (va_A [(h0, e0)] sz) := by
  intro sz
  refine Met.ofW (cc := cc) (maxL := maxL) (ret := none) hy hw ?_
  intro p e s m args below meth c s₁ B hml hv
  obtain ⟨rfl, ⟨hsz, hP, hK, hD0⟩, hO⟩ := hv
  subst hsz
  have h := body p e s m [Value.ref h0].toArray below meth c (va_A [(h0, e0)] s.heap.size) B.exec B.bytes B.returns (atoms_spec (ws := wl) B.pre) (findClass_of_methodNamed B.named) hml B.notSynchronized ((name_of_methodNamed B.named B.method).1.trans hyn) hO (fun q h => Or.inr h) hK hP hD0.self va_S.rf
    ((lg_sl [Value.ref h0] ++ List.replicate (maxL - (lg_sl [Value.ref h0]).length) Slot.unset).toArray) (lv_entry [Value.ref h0] hav)
  rw [lg_entry_eq]
  exact h
variable {g : az_G} {cc : ByteArray} {pc : Nat} {ls : Array Slot} {ws ws' : va_W} {A : Nat → Prop} {mc ms : Nat}
theorem az_retN {α : Type} {post : α → Prop} {cf : α → va_W} (u : α) (hp : post u) (hx : p.tables.exec = Jvm.exec) (hb : c.code = cc) (hr : meth.sig.returnType = none) (hlocks : meth.locks = false) (hK : va_K g.1 az_cl (az_tys g) s) (hP : va_P g.1 az_cl (cf u) H) (hD : va_D A (cf u)) (hS : va_S A s.heap H locs) (hdg : decode cc pc = .ok (.return_, 1)) (hc : cells ≤ mc) (hs : slots ≤ ms) :
    W p l e R s m args below meth c H locs cells slots (MQ below (az_QN g post cf A) args s mc ms A) (F0 m pc ls []) :=
  W.widen hc hs (W.vret hx hb hr (fun t ht hW => ⟨⟨u, rfl, hp, by rw [ht]; exact hP, va_K.moved hW.alike hK, hD⟩, hS.F ht⟩) hS.2.2 hdg hlocks)
theorem az_sameI {cA : ClassId} (hK : va_K g.1 az_cl (az_tys g) s) (h : va_K g.1 az_cl (az_tys g ++ [(cA, .int)]) s) : cA = g.2 0 := by
  have h1 : s.vm.findClass ("[" ++ FieldType.int.toString) = some cA := (h.2 4 (cA, .int) rfl).2
  have h2 : s.vm.findClass ("[" ++ FieldType.int.toString) = some (g.2 0) := (hK.2 0 (g.2 0, .int) rfl).2
  exact Option.some.inj (h1.symm.trans h2)
theorem az_sameZ {cA : ClassId} (hK : va_K g.1 az_cl (az_tys g) s) (h : va_K g.1 az_cl (az_tys g ++ [(cA, .boolean)]) s) : cA = g.2 1 := by
  have h1 : s.vm.findClass ("[" ++ FieldType.boolean.toString) = some cA := (h.2 4 (cA, .boolean) rfl).2
  have h2 : s.vm.findClass ("[" ++ FieldType.boolean.toString) = some (g.2 1) := (hK.2 1 (g.2 1, .boolean) rfl).2
  exact Option.some.inj (h1.symm.trans h2)
theorem az_sameL {cA : ClassId} (hK : va_K g.1 az_cl (az_tys g) s) (h : va_K g.1 az_cl (az_tys g ++ [(cA, .long)]) s) : cA = g.2 2 := by
  have h1 : s.vm.findClass ("[" ++ FieldType.long.toString) = some cA := (h.2 4 (cA, .long) rfl).2
  have h2 : s.vm.findClass ("[" ++ FieldType.long.toString) = some (g.2 2) := (hK.2 2 (g.2 2, .long) rfl).2
  exact Option.some.inj (h1.symm.trans h2)
theorem az_sameO {cA : ClassId} (hK : va_K g.1 az_cl (az_tys g) s) (h : va_K g.1 az_cl (az_tys g ++ [(cA, .object "AppendedVolume$Volume")]) s) : cA = g.2 3 := by
  obtain ⟨_, _, _, _, _, h1⟩ := (h.2 4 (cA, .object "AppendedVolume$Volume") rfl).2
  obtain ⟨_, _, _, _, _, h2⟩ := (hK.2 3 (g.2 3, .object "AppendedVolume$Volume") rfl).2
  exact Option.some.inj (h1.symm.trans h2)
variable {H0 : Heap} {y : MethodName} {bytes : ByteArray} {maxL nL n index : Nat} {ret : Option FieldType} {wl : List Cond} {rm : Room} {Ts : List Cond} {own C : String} {b : Addr} {As rest : List Value} {wc w1 w2 wr X : va_W}
theorem az_callN {α : Type} {post : α → Prop} {cf : α → va_W} {q : Nat} {e0 : va_E} {mcc msc : Nat} (S : CallFix p m c cc nL s args Ts own) (hl : ls.size = nL) (hM : az_N l y wl rm g q e0 post cf mcc msc) (cw : CallB R s args own index y bytes maxL none wl rm mcc msc 0 ∧ y.name = "<init>" ∧ (Cond.instanceMethod y).before args s = true)
    (hK : va_K g.1 az_cl (az_tys g) s) (hO : az_nc s) (hP : va_P g.1 az_cl (X ++ [(q, e0)]) H) (hD : va_D A (X ++ [(q, e0)])) (hS : va_S A H0 H locs) (hA : ∀ q : Nat, H0.size ≤ q → A q)
    (hroom : (rest.map fun v => v.category).sum ≤ 8) (hdg : decode cc pc = .ok (.invokespecial index, 3)) (hf : cells + mcc ≤ R.cells ∧ slots + msc ≤ R.slots)
    (kk : ∀ (u : α) (H1 : Heap) (locs1 : List Loc), post u → va_P g.1 az_cl (X ++ cf u) H1 → va_D A (X ++ cf u) → va_S A H0 H1 locs1 → W p l e R s m args below meth c H1 locs1 (cells + mcc) (slots + msc) Q (F0 m (pc + 3) ls rest)) :
    W p l e R s m args below meth c H locs cells slots Q (F0 m pc ls (.ref q :: rest)) := by
  replace hP := az_sndP (w2 := [(q, e0)] ++ X) List.perm_append_comm hP
  replace hD := az_sndD (w2 := [(q, e0)] ++ X) List.perm_append_comm hD
  have hPc := (az_P_app hP).1
  have hFc := az_freeP hD hS hA
  have hDc : va_D (fun _ => True) [(q, e0)] := by
    have := az_D_iff.mp hD
    rw [List.map_append, List.nodup_append] at this
    exact az_D_iff.mpr ⟨this.1.1, fun _ _ => trivial⟩
  refine va_callv (va_runI (As := []) (rest := rest) S (hM H.size) cw ⟨az_blindN _ _ _ _, fun U hU hW => ⟨rfl, ⟨by rw [hU], by rw [hU]; exact hPc, va_K.moved hW.alike hK, hDc⟩, az_nc.moved hW hO⟩⟩ rfl rfl hl rfl (lv_room hroom) hdg hf) hS (fun q _ h => hFc q h) hFc (fun u t H1 locs1 ht hvm hw hB hz1 hk1 hS => ?_)
  obtain ⟨hP1, hK1, hD1⟩ := hB
  rw [ht] at hP1
  obtain ⟨hP2, hD2⟩ := az_joinP hP hD hFc hk1 hP1 hD1
  exact kk u H1 locs1 hw (az_sndP List.perm_append_comm hP2) (az_sndD List.perm_append_comm hD2) hS
theorem az_callNN {α : Type} {post : α → Prop} {cf : α → va_W} {q : Nat} {e0 : va_E} {mcc msc : Nat} (S : CallFix p m c cc nL s args Ts own) (hl : ls.size = nL) (hM : az_N l y wl rm g q e0 post cf mcc msc) {host : String} (cw : va_CN R s args own index y host bytes maxL none wl rm mcc msc 0 ∧ y.name = "<init>" ∧ (Cond.instanceMethod y).before args s = true)
    (hK : va_K g.1 az_cl (az_tys g) s) (hO : az_nc s) (hP : va_P g.1 az_cl (X ++ [(q, e0)]) H) (hD : va_D A (X ++ [(q, e0)])) (hS : va_S A H0 H locs) (hA : ∀ q : Nat, H0.size ≤ q → A q)
    (hroom : (rest.map fun v => v.category).sum ≤ 8) (hdg : decode cc pc = .ok (.invokespecial index, 3)) (hf : cells + mcc ≤ R.cells ∧ slots + msc ≤ R.slots)
    (kk : ∀ (u : α) (H1 : Heap) (locs1 : List Loc), post u → va_P g.1 az_cl (X ++ cf u) H1 → va_D A (X ++ cf u) → va_S A H0 H1 locs1 → W p l e R s m args below meth c H1 locs1 (cells + mcc) (slots + msc) Q (F0 m (pc + 3) ls rest)) :
    W p l e R s m args below meth c H locs cells slots Q (F0 m pc ls (.ref q :: rest)) := by
  replace hP := az_sndP (w2 := [(q, e0)] ++ X) List.perm_append_comm hP
  replace hD := az_sndD (w2 := [(q, e0)] ++ X) List.perm_append_comm hD
  have hPc := (az_P_app hP).1
  have hFc := az_freeP hD hS hA
  have hDc : va_D (fun _ => True) [(q, e0)] := by
    have := az_D_iff.mp hD
    rw [List.map_append, List.nodup_append] at this
    exact az_D_iff.mpr ⟨this.1.1, fun _ _ => trivial⟩
  refine va_callv (va_runIN (As := []) (rest := rest) S (hM H.size) cw ⟨az_blindN _ _ _ _, fun U hU hW => ⟨rfl, ⟨by rw [hU], by rw [hU]; exact hPc, va_K.moved hW.alike hK, hDc⟩, az_nc.moved hW hO⟩⟩ rfl rfl hl rfl (lv_room hroom) hdg hf) hS (fun q _ h => hFc q h) hFc (fun u t H1 locs1 ht hvm hw hB hz1 hk1 hS => ?_)
  obtain ⟨hP1, hK1, hD1⟩ := hB
  rw [ht] at hP1
  obtain ⟨hP2, hD2⟩ := az_joinP hP hD hFc hk1 hP1 hD1
  exact kk u H1 locs1 hw (az_sndP List.perm_append_comm hP2) (az_sndD List.perm_append_comm hD2) hS
theorem az_D_map {A : Nat → Prop} {ws w2 : va_W} (hD : va_D A ws) (h : w2.map (fun q => q.1) = ws.map (fun q => q.1)) : va_D A w2 := by
  rw [az_D_iff] at hD ⊢
  refine ⟨by rw [h]; exact hD.1, fun q hq => ?_⟩
  have h1 : q.1 ∈ w2.map (fun q => q.1) := List.mem_map.mpr ⟨q, hq, rfl⟩
  rw [h] at h1
  obtain ⟨q2, h2, e⟩ := List.mem_map.mp h1
  rw [← e]
  exact hD.2 q2 h2
/-- an array of references read as another function that agrees on its places -/
theorem az_P_refs {D : va_G} {cl : List vw_C} {i a n : Nat} {cA : ClassId} {f f' : Nat → Option Nat} (hP : va_P D cl ws H) (he : ws[i]? = some (a, .inl (cA, n, .inr (.inr (.inr (.inr f)))))) (hff : ∀ j, j < n → f j = f' j) : va_P D cl (ws.set i (a, .inl (cA, n, .inr (.inr (.inr (.inr f')))))) H := by
  have hcell : vp_cell cA (n, .inr (.inr (.inr (.inr f)))) = vp_cell cA (n, .inr (.inr (.inr (.inr f')))) := by
    rw [vp_cell_q, vp_cell_q]
    unfold arrV
    congr 1
    refine Array.ext (by simp) (fun j h1 h2 => ?_)
    have hj : j < n := by simpa using h1
    simp [hff j hj]
  intro k q hk
  rw [List.getElem?_set] at hk
  split at hk
  · rename_i hik
    subst hik
    have hli := (List.getElem?_eq_some_iff.mp he).1
    rw [if_pos hli] at hk
    cases hk
    have h := hP _ _ he
    show H[a]? = some (vp_cell _ _)
    rw [← hcell]
    exact h
  · exact hP k q hk
end AN

theorem inX0_init_RX0 : ∀ w ∈ wsX00, w ∈ wsX0_init := az_inr [11, 12, 13, 14, 15, 16] (by decide +kernel)
set_option maxHeartbeats 8000000 in
set_option maxRecDepth 100000 in
theorem kX0_init (l : Launch) (g : az_G)  (h0 : Nat) : az_N (α := Nat → Nat) l yX0_init wsX0_init ({ frames := 1, cells := 6, slots := 960, locals := 12 } : Room) g h0 (.inr (0, [.null, .null, .null, .null, .null, .null])) (fun (ad : Nat → Nat) => ad 6 = h0) (fun (ad : Nat → Nat) => az_cB g ad az_z) 6 960 := by
  refine az_bodyN (y := yX0_init) (cc := cX0_init) (maxL := 1) (mc := 6) (ms := 960) (Qc := fun A => az_QN g (fun (ad : Nat → Nat) => ad 6 = h0) (fun (ad : Nat → Nat) => az_cB g ad az_z) A) (by decide +kernel) rfl (Nat.le_of_ble_eq_true rfl) rfl ?_
  intro p e s m args below meth c A hx hb hr hts hown hml hlocks hin hO hA hK hP hD hS ls hl
  have hl : lv_has ls 1 [(0, .ref h0)] := hl
  refine lv_aload_n hx hb dX0_init_0 rfl (lv_at hl 0 rfl) ?_
  refine W.objInit hx hb hown (hts _ (List.mem_of_getElem? (i := 1) rfl)) (hts _ (List.mem_of_getElem? (i := 2) rfl)) (hts _ (List.mem_of_getElem? (i := 3) rfl)) rfl (by rw [hml]; exact hl.1) rfl dX0_init_1 (Nat.le_of_ble_eq_true rfl) (Nat.le_of_ble_eq_true rfl) ?_
  refine W.eq (g2 := F0 m 4 ls []) rfl ?_
  refine lv_aload_n hx hb dX0_init_4 rfl (lv_at hl 0 rfl) ?_
  refine lv_sipush (v := (160 : Int32)) hx hb dX0_init_5 (by decide) ?_
  refine va_newa (D := g.1) (atype := .int) (a0 := (160, .inl (fun _ => 0))) (N' := 160) hx hb (hts _ (List.mem_of_getElem? (i := 4) rfl)) rfl hK hP hD hS hA (fun _ => rfl) (by decide) (by decide) (by decide) (Nat.le_of_ble_eq_true rfl) (Nat.le_of_ble_eq_true rfl) dX0_init_8 (fun q7 cAq7 H hK9 hP hD hS => ?_)
  obtain rfl := az_sameI hK hK9
  refine va_putF (D := g.1) (ci := 0) (v := .ref q7) (ty := .array .int) (C := RX0) (T := TX0) (N := 6) hx hb hts inX0_init_RX0 tyX0 tyX0_ok nmX0 hown hK hP hD hS 0 rfl rfl 0 (Nat.le_of_ble_eq_true rfl) (hts _ (List.mem_of_getElem? (i := 5) rfl)) (fun _ h9 => h9) rfl hin rfl (by decide +kernel) rfl rfl (Nat.le_of_ble_eq_true rfl) dX0_init_10 (fun H locs hP hD hS => ?_)
  have hP : va_P g.1 az_cl ([(h0, .inr (0, [.ref q7, .null, .null, .null, .null, .null])), (q7, .inl (g.2 0, 160, .inl (fun _ => 0)))]) _ := hP
  have hD : va_D A ([(h0, .inr (0, [.ref q7, .null, .null, .null, .null, .null])), (q7, .inl (g.2 0, 160, .inl (fun _ => 0)))]) := hD
  refine lv_aload_n hx hb dX0_init_13 rfl (lv_at hl 0 rfl) ?_
  refine lv_sipush (v := (160 : Int32)) hx hb dX0_init_14 (by decide) ?_
  refine va_newa (D := g.1) (atype := .int) (a0 := (160, .inl (fun _ => 0))) (N' := 160) hx hb (hts _ (List.mem_of_getElem? (i := 4) rfl)) rfl hK hP hD hS hA (fun _ => rfl) (by decide) (by decide) (by decide) (Nat.le_of_ble_eq_true rfl) (Nat.le_of_ble_eq_true rfl) dX0_init_17 (fun q8 cAq8 H hK9 hP hD hS => ?_)
  obtain rfl := az_sameI hK hK9
  refine va_putF (D := g.1) (ci := 0) (v := .ref q8) (ty := .array .int) (C := RX0) (T := TX0) (N := 6) hx hb hts inX0_init_RX0 tyX0 tyX0_ok nmX0 hown hK hP hD hS 0 rfl rfl 1 (Nat.le_of_ble_eq_true rfl) (hts _ (List.mem_of_getElem? (i := 6) rfl)) (fun _ h9 => h9) rfl hin rfl (by decide +kernel) rfl rfl (Nat.le_of_ble_eq_true rfl) dX0_init_19 (fun H locs hP hD hS => ?_)
  have hP : va_P g.1 az_cl ([(h0, .inr (0, [.ref q7, .ref q8, .null, .null, .null, .null])), (q7, .inl (g.2 0, 160, .inl (fun _ => 0))), (q8, .inl (g.2 0, 160, .inl (fun _ => 0)))]) _ := hP
  have hD : va_D A ([(h0, .inr (0, [.ref q7, .ref q8, .null, .null, .null, .null])), (q7, .inl (g.2 0, 160, .inl (fun _ => 0))), (q8, .inl (g.2 0, 160, .inl (fun _ => 0)))]) := hD
  refine lv_aload_n hx hb dX0_init_22 rfl (lv_at hl 0 rfl) ?_
  refine lv_sipush (v := (160 : Int32)) hx hb dX0_init_23 (by decide) ?_
  refine va_newa (D := g.1) (atype := .int) (a0 := (160, .inl (fun _ => 0))) (N' := 160) hx hb (hts _ (List.mem_of_getElem? (i := 4) rfl)) rfl hK hP hD hS hA (fun _ => rfl) (by decide) (by decide) (by decide) (Nat.le_of_ble_eq_true rfl) (Nat.le_of_ble_eq_true rfl) dX0_init_26 (fun q9 cAq9 H hK9 hP hD hS => ?_)
  obtain rfl := az_sameI hK hK9
  refine va_putF (D := g.1) (ci := 0) (v := .ref q9) (ty := .array .int) (C := RX0) (T := TX0) (N := 6) hx hb hts inX0_init_RX0 tyX0 tyX0_ok nmX0 hown hK hP hD hS 0 rfl rfl 2 (Nat.le_of_ble_eq_true rfl) (hts _ (List.mem_of_getElem? (i := 7) rfl)) (fun _ h9 => h9) rfl hin rfl (by decide +kernel) rfl rfl (Nat.le_of_ble_eq_true rfl) dX0_init_28 (fun H locs hP hD hS => ?_)
  have hP : va_P g.1 az_cl ([(h0, .inr (0, [.ref q7, .ref q8, .ref q9, .null, .null, .null])), (q7, .inl (g.2 0, 160, .inl (fun _ => 0))), (q8, .inl (g.2 0, 160, .inl (fun _ => 0))), (q9, .inl (g.2 0, 160, .inl (fun _ => 0)))]) _ := hP
  have hD : va_D A ([(h0, .inr (0, [.ref q7, .ref q8, .ref q9, .null, .null, .null])), (q7, .inl (g.2 0, 160, .inl (fun _ => 0))), (q8, .inl (g.2 0, 160, .inl (fun _ => 0))), (q9, .inl (g.2 0, 160, .inl (fun _ => 0)))]) := hD
  refine lv_aload_n hx hb dX0_init_31 rfl (lv_at hl 0 rfl) ?_
  refine lv_sipush (v := (160 : Int32)) hx hb dX0_init_32 (by decide) ?_
  refine va_newa (D := g.1) (atype := .int) (a0 := (160, .inl (fun _ => 0))) (N' := 160) hx hb (hts _ (List.mem_of_getElem? (i := 4) rfl)) rfl hK hP hD hS hA (fun _ => rfl) (by decide) (by decide) (by decide) (Nat.le_of_ble_eq_true rfl) (Nat.le_of_ble_eq_true rfl) dX0_init_35 (fun q10 cAq10 H hK9 hP hD hS => ?_)
  obtain rfl := az_sameI hK hK9
  refine va_putF (D := g.1) (ci := 0) (v := .ref q10) (ty := .array .int) (C := RX0) (T := TX0) (N := 6) hx hb hts inX0_init_RX0 tyX0 tyX0_ok nmX0 hown hK hP hD hS 0 rfl rfl 3 (Nat.le_of_ble_eq_true rfl) (hts _ (List.mem_of_getElem? (i := 8) rfl)) (fun _ h9 => h9) rfl hin rfl (by decide +kernel) rfl rfl (Nat.le_of_ble_eq_true rfl) dX0_init_37 (fun H locs hP hD hS => ?_)
  have hP : va_P g.1 az_cl ([(h0, .inr (0, [.ref q7, .ref q8, .ref q9, .ref q10, .null, .null])), (q7, .inl (g.2 0, 160, .inl (fun _ => 0))), (q8, .inl (g.2 0, 160, .inl (fun _ => 0))), (q9, .inl (g.2 0, 160, .inl (fun _ => 0))), (q10, .inl (g.2 0, 160, .inl (fun _ => 0)))]) _ := hP
  have hD : va_D A ([(h0, .inr (0, [.ref q7, .ref q8, .ref q9, .ref q10, .null, .null])), (q7, .inl (g.2 0, 160, .inl (fun _ => 0))), (q8, .inl (g.2 0, 160, .inl (fun _ => 0))), (q9, .inl (g.2 0, 160, .inl (fun _ => 0))), (q10, .inl (g.2 0, 160, .inl (fun _ => 0)))]) := hD
  refine lv_aload_n hx hb dX0_init_40 rfl (lv_at hl 0 rfl) ?_
  refine lv_sipush (v := (160 : Int32)) hx hb dX0_init_41 (by decide) ?_
  refine va_newa (D := g.1) (atype := .int) (a0 := (160, .inl (fun _ => 0))) (N' := 160) hx hb (hts _ (List.mem_of_getElem? (i := 4) rfl)) rfl hK hP hD hS hA (fun _ => rfl) (by decide) (by decide) (by decide) (Nat.le_of_ble_eq_true rfl) (Nat.le_of_ble_eq_true rfl) dX0_init_44 (fun q11 cAq11 H hK9 hP hD hS => ?_)
  obtain rfl := az_sameI hK hK9
  refine va_putF (D := g.1) (ci := 0) (v := .ref q11) (ty := .array .int) (C := RX0) (T := TX0) (N := 6) hx hb hts inX0_init_RX0 tyX0 tyX0_ok nmX0 hown hK hP hD hS 0 rfl rfl 4 (Nat.le_of_ble_eq_true rfl) (hts _ (List.mem_of_getElem? (i := 9) rfl)) (fun _ h9 => h9) rfl hin rfl (by decide +kernel) rfl rfl (Nat.le_of_ble_eq_true rfl) dX0_init_46 (fun H locs hP hD hS => ?_)
  have hP : va_P g.1 az_cl ([(h0, .inr (0, [.ref q7, .ref q8, .ref q9, .ref q10, .ref q11, .null])), (q7, .inl (g.2 0, 160, .inl (fun _ => 0))), (q8, .inl (g.2 0, 160, .inl (fun _ => 0))), (q9, .inl (g.2 0, 160, .inl (fun _ => 0))), (q10, .inl (g.2 0, 160, .inl (fun _ => 0))), (q11, .inl (g.2 0, 160, .inl (fun _ => 0)))]) _ := hP
  have hD : va_D A ([(h0, .inr (0, [.ref q7, .ref q8, .ref q9, .ref q10, .ref q11, .null])), (q7, .inl (g.2 0, 160, .inl (fun _ => 0))), (q8, .inl (g.2 0, 160, .inl (fun _ => 0))), (q9, .inl (g.2 0, 160, .inl (fun _ => 0))), (q10, .inl (g.2 0, 160, .inl (fun _ => 0))), (q11, .inl (g.2 0, 160, .inl (fun _ => 0)))]) := hD
  refine lv_aload_n hx hb dX0_init_49 rfl (lv_at hl 0 rfl) ?_
  refine lv_sipush (v := (160 : Int32)) hx hb dX0_init_50 (by decide) ?_
  refine va_newa (D := g.1) (atype := .int) (a0 := (160, .inl (fun _ => 0))) (N' := 160) hx hb (hts _ (List.mem_of_getElem? (i := 4) rfl)) rfl hK hP hD hS hA (fun _ => rfl) (by decide) (by decide) (by decide) (Nat.le_of_ble_eq_true rfl) (Nat.le_of_ble_eq_true rfl) dX0_init_53 (fun q12 cAq12 H hK9 hP hD hS => ?_)
  obtain rfl := az_sameI hK hK9
  refine va_putF (D := g.1) (ci := 0) (v := .ref q12) (ty := .array .int) (C := RX0) (T := TX0) (N := 6) hx hb hts inX0_init_RX0 tyX0 tyX0_ok nmX0 hown hK hP hD hS 0 rfl rfl 5 (Nat.le_of_ble_eq_true rfl) (hts _ (List.mem_of_getElem? (i := 10) rfl)) (fun _ h9 => h9) rfl hin rfl (by decide +kernel) rfl rfl (Nat.le_of_ble_eq_true rfl) dX0_init_55 (fun H locs hP hD hS => ?_)
  have hP : va_P g.1 az_cl ([(h0, .inr (0, [.ref q7, .ref q8, .ref q9, .ref q10, .ref q11, .ref q12])), (q7, .inl (g.2 0, 160, .inl (fun _ => 0))), (q8, .inl (g.2 0, 160, .inl (fun _ => 0))), (q9, .inl (g.2 0, 160, .inl (fun _ => 0))), (q10, .inl (g.2 0, 160, .inl (fun _ => 0))), (q11, .inl (g.2 0, 160, .inl (fun _ => 0))), (q12, .inl (g.2 0, 160, .inl (fun _ => 0)))]) _ := hP
  have hD : va_D A ([(h0, .inr (0, [.ref q7, .ref q8, .ref q9, .ref q10, .ref q11, .ref q12])), (q7, .inl (g.2 0, 160, .inl (fun _ => 0))), (q8, .inl (g.2 0, 160, .inl (fun _ => 0))), (q9, .inl (g.2 0, 160, .inl (fun _ => 0))), (q10, .inl (g.2 0, 160, .inl (fun _ => 0))), (q11, .inl (g.2 0, 160, .inl (fun _ => 0))), (q12, .inl (g.2 0, 160, .inl (fun _ => 0)))]) := hD
  have hP : va_P g.1 az_cl ((fun (ad : Nat → Nat) => az_cB g ad az_z) (fun i => match i with | 6 => h0 | 7 => q7 | 8 => q8 | 9 => q9 | 10 => q10 | 11 => q11 | 12 => q12 | _ => h0)) _ := hP
  have hD : va_D A ((fun (ad : Nat → Nat) => az_cB g ad az_z) (fun i => match i with | 6 => h0 | 7 => q7 | 8 => q8 | 9 => q9 | 10 => q10 | 11 => q11 | 12 => q12 | _ => h0)) := hD
  exact az_retN (fun i => match i with | 6 => h0 | 7 => q7 | 8 => q8 | 9 => q9 | 10 => q10 | 11 => q11 | 12 => q12 | _ => h0) rfl hx hb hr hlocks hK hP hD hS dX0_init_58 (Nat.le_of_ble_eq_true rfl) (Nat.le_of_ble_eq_true rfl)

theorem inX2_init_RX2 : ∀ w ∈ wsX20, w ∈ wsX2_init := az_inr [7, 8] (by decide +kernel)
set_option maxHeartbeats 8000000 in
set_option maxRecDepth 100000 in
theorem kX2_init (l : Launch) (g : az_G)  (h0 : Nat) : az_N (α := Nat → Nat) l yX2_init wsX2_init ({ frames := 1, cells := 2, slots := 12, locals := 12 } : Room) g h0 (.inr (2, [.null, .null])) (fun (ad : Nat → Nat) => ad 13 = h0) (fun (ad : Nat → Nat) => az_cR g ad az_z) 2 12 := by
  refine az_bodyN (y := yX2_init) (cc := cX2_init) (maxL := 1) (mc := 2) (ms := 12) (Qc := fun A => az_QN g (fun (ad : Nat → Nat) => ad 13 = h0) (fun (ad : Nat → Nat) => az_cR g ad az_z) A) (by decide +kernel) rfl (Nat.le_of_ble_eq_true rfl) rfl ?_
  intro p e s m args below meth c A hx hb hr hts hown hml hlocks hin hO hA hK hP hD hS ls hl
  have hl : lv_has ls 1 [(0, .ref h0)] := hl
  refine lv_aload_n hx hb dX2_init_0 rfl (lv_at hl 0 rfl) ?_
  refine W.objInit hx hb hown (hts _ (List.mem_of_getElem? (i := 1) rfl)) (hts _ (List.mem_of_getElem? (i := 2) rfl)) (hts _ (List.mem_of_getElem? (i := 3) rfl)) rfl (by rw [hml]; exact hl.1) rfl dX2_init_1 (Nat.le_of_ble_eq_true rfl) (Nat.le_of_ble_eq_true rfl) ?_
  refine W.eq (g2 := F0 m 4 ls []) rfl ?_
  refine lv_aload_n hx hb dX2_init_4 rfl (lv_at hl 0 rfl) ?_
  refine lv_bipush (v := (6 : Int32)) hx hb dX2_init_5 (by decide) ?_
  refine va_newa (D := g.1) (atype := .int) (a0 := (6, .inl (fun _ => 0))) (N' := 6) hx hb (hts _ (List.mem_of_getElem? (i := 4) rfl)) rfl hK hP hD hS hA (fun _ => rfl) (by decide) (by decide) (by decide) (Nat.le_of_ble_eq_true rfl) (Nat.le_of_ble_eq_true rfl) dX2_init_7 (fun q14 cAq14 H hK9 hP hD hS => ?_)
  obtain rfl := az_sameI hK hK9
  refine va_putF (D := g.1) (ci := 2) (v := .ref q14) (ty := .array .int) (C := RX2) (T := TX2) (N := 2) hx hb hts inX2_init_RX2 tyX2 tyX2_ok nmX2 hown hK hP hD hS 0 rfl rfl 0 (Nat.le_of_ble_eq_true rfl) (hts _ (List.mem_of_getElem? (i := 5) rfl)) (fun _ h9 => h9) rfl hin rfl (by decide +kernel) rfl rfl (Nat.le_of_ble_eq_true rfl) dX2_init_9 (fun H locs hP hD hS => ?_)
  have hP : va_P g.1 az_cl ([(h0, .inr (2, [.ref q14, .null])), (q14, .inl (g.2 0, 6, .inl (fun _ => 0)))]) _ := hP
  have hD : va_D A ([(h0, .inr (2, [.ref q14, .null])), (q14, .inl (g.2 0, 6, .inl (fun _ => 0)))]) := hD
  refine lv_aload_n hx hb dX2_init_12 rfl (lv_at hl 0 rfl) ?_
  refine lv_bipush (v := (6 : Int32)) hx hb dX2_init_13 (by decide) ?_
  refine va_newa (D := g.1) (atype := .int) (a0 := (6, .inl (fun _ => 0))) (N' := 6) hx hb (hts _ (List.mem_of_getElem? (i := 4) rfl)) rfl hK hP hD hS hA (fun _ => rfl) (by decide) (by decide) (by decide) (Nat.le_of_ble_eq_true rfl) (Nat.le_of_ble_eq_true rfl) dX2_init_15 (fun q15 cAq15 H hK9 hP hD hS => ?_)
  obtain rfl := az_sameI hK hK9
  refine va_putF (D := g.1) (ci := 2) (v := .ref q15) (ty := .array .int) (C := RX2) (T := TX2) (N := 2) hx hb hts inX2_init_RX2 tyX2 tyX2_ok nmX2 hown hK hP hD hS 0 rfl rfl 1 (Nat.le_of_ble_eq_true rfl) (hts _ (List.mem_of_getElem? (i := 6) rfl)) (fun _ h9 => h9) rfl hin rfl (by decide +kernel) rfl rfl (Nat.le_of_ble_eq_true rfl) dX2_init_17 (fun H locs hP hD hS => ?_)
  have hP : va_P g.1 az_cl ([(h0, .inr (2, [.ref q14, .ref q15])), (q14, .inl (g.2 0, 6, .inl (fun _ => 0))), (q15, .inl (g.2 0, 6, .inl (fun _ => 0)))]) _ := hP
  have hD : va_D A ([(h0, .inr (2, [.ref q14, .ref q15])), (q14, .inl (g.2 0, 6, .inl (fun _ => 0))), (q15, .inl (g.2 0, 6, .inl (fun _ => 0)))]) := hD
  have hP : va_P g.1 az_cl ((fun (ad : Nat → Nat) => az_cR g ad az_z) (fun i => match i with | 13 => h0 | 14 => q14 | 15 => q15 | _ => h0)) _ := hP
  have hD : va_D A ((fun (ad : Nat → Nat) => az_cR g ad az_z) (fun i => match i with | 13 => h0 | 14 => q14 | 15 => q15 | _ => h0)) := hD
  exact az_retN (fun i => match i with | 13 => h0 | 14 => q14 | 15 => q15 | _ => h0) rfl hx hb hr hlocks hK hP hD hS dX2_init_20 (Nat.le_of_ble_eq_true rfl) (Nat.le_of_ble_eq_true rfl)

theorem inX3_init_RX3 : ∀ w ∈ wsX30, w ∈ wsX3_init := az_inr [9, 10, 11, 12, 13, 14] (by decide +kernel)
set_option maxHeartbeats 8000000 in
set_option maxRecDepth 100000 in
theorem kX3_init (l : Launch) (g : az_G)  (h0 : Nat) : az_N (α := Nat → Nat) l yX3_init wsX3_init ({ frames := 1, cells := 4, slots := 32, locals := 12 } : Room) g h0 (.inr (3, [.null, .null, .null, .null, .int 0, .int 0])) (fun (ad : Nat → Nat) => ad 1 = h0) (fun (ad : Nat → Nat) => az_cS g ad az_z) 4 32 := by
  refine az_bodyN (y := yX3_init) (cc := cX3_init) (maxL := 1) (mc := 4) (ms := 32) (Qc := fun A => az_QN g (fun (ad : Nat → Nat) => ad 1 = h0) (fun (ad : Nat → Nat) => az_cS g ad az_z) A) (by decide +kernel) rfl (Nat.le_of_ble_eq_true rfl) rfl ?_
  intro p e s m args below meth c A hx hb hr hts hown hml hlocks hin hO hA hK hP hD hS ls hl
  have hl : lv_has ls 1 [(0, .ref h0)] := hl
  refine lv_aload_n hx hb dX3_init_0 rfl (lv_at hl 0 rfl) ?_
  refine W.objInit hx hb hown (hts _ (List.mem_of_getElem? (i := 1) rfl)) (hts _ (List.mem_of_getElem? (i := 2) rfl)) (hts _ (List.mem_of_getElem? (i := 3) rfl)) rfl (by rw [hml]; exact hl.1) rfl dX3_init_1 (Nat.le_of_ble_eq_true rfl) (Nat.le_of_ble_eq_true rfl) ?_
  refine W.eq (g2 := F0 m 4 ls []) rfl ?_
  refine lv_aload_n hx hb dX3_init_4 rfl (lv_at hl 0 rfl) ?_
  refine lv_bipush (v := (10 : Int32)) hx hb dX3_init_5 (by decide) ?_
  refine va_newa (D := g.1) (atype := .int) (a0 := (10, .inl (fun _ => 0))) (N' := 10) hx hb (hts _ (List.mem_of_getElem? (i := 4) rfl)) rfl hK hP hD hS hA (fun _ => rfl) (by decide) (by decide) (by decide) (Nat.le_of_ble_eq_true rfl) (Nat.le_of_ble_eq_true rfl) dX3_init_7 (fun q2 cAq2 H hK9 hP hD hS => ?_)
  obtain rfl := az_sameI hK hK9
  refine va_putF (D := g.1) (ci := 3) (v := .ref q2) (ty := .array .int) (C := RX3) (T := TX3) (N := 6) hx hb hts inX3_init_RX3 tyX3 tyX3_ok nmX3 hown hK hP hD hS 0 rfl rfl 0 (Nat.le_of_ble_eq_true rfl) (hts _ (List.mem_of_getElem? (i := 5) rfl)) (fun _ h9 => h9) rfl hin rfl (by decide +kernel) rfl rfl (Nat.le_of_ble_eq_true rfl) dX3_init_9 (fun H locs hP hD hS => ?_)
  have hP : va_P g.1 az_cl ([(h0, .inr (3, [.ref q2, .null, .null, .null, .int 0, .int 0])), (q2, .inl (g.2 0, 10, .inl (fun _ => 0)))]) _ := hP
  have hD : va_D A ([(h0, .inr (3, [.ref q2, .null, .null, .null, .int 0, .int 0])), (q2, .inl (g.2 0, 10, .inl (fun _ => 0)))]) := hD
  refine lv_aload_n hx hb dX3_init_12 rfl (lv_at hl 0 rfl) ?_
  refine lv_bipush (v := (10 : Int32)) hx hb dX3_init_13 (by decide) ?_
  refine va_newa (D := g.1) (atype := .int) (a0 := (10, .inl (fun _ => 0))) (N' := 10) hx hb (hts _ (List.mem_of_getElem? (i := 4) rfl)) rfl hK hP hD hS hA (fun _ => rfl) (by decide) (by decide) (by decide) (Nat.le_of_ble_eq_true rfl) (Nat.le_of_ble_eq_true rfl) dX3_init_15 (fun q3 cAq3 H hK9 hP hD hS => ?_)
  obtain rfl := az_sameI hK hK9
  refine va_putF (D := g.1) (ci := 3) (v := .ref q3) (ty := .array .int) (C := RX3) (T := TX3) (N := 6) hx hb hts inX3_init_RX3 tyX3 tyX3_ok nmX3 hown hK hP hD hS 0 rfl rfl 1 (Nat.le_of_ble_eq_true rfl) (hts _ (List.mem_of_getElem? (i := 6) rfl)) (fun _ h9 => h9) rfl hin rfl (by decide +kernel) rfl rfl (Nat.le_of_ble_eq_true rfl) dX3_init_17 (fun H locs hP hD hS => ?_)
  have hP : va_P g.1 az_cl ([(h0, .inr (3, [.ref q2, .ref q3, .null, .null, .int 0, .int 0])), (q2, .inl (g.2 0, 10, .inl (fun _ => 0))), (q3, .inl (g.2 0, 10, .inl (fun _ => 0)))]) _ := hP
  have hD : va_D A ([(h0, .inr (3, [.ref q2, .ref q3, .null, .null, .int 0, .int 0])), (q2, .inl (g.2 0, 10, .inl (fun _ => 0))), (q3, .inl (g.2 0, 10, .inl (fun _ => 0)))]) := hD
  refine lv_aload_n hx hb dX3_init_20 rfl (lv_at hl 0 rfl) ?_
  refine lv_bipush (v := (10 : Int32)) hx hb dX3_init_21 (by decide) ?_
  refine va_newa (D := g.1) (atype := .int) (a0 := (10, .inl (fun _ => 0))) (N' := 10) hx hb (hts _ (List.mem_of_getElem? (i := 4) rfl)) rfl hK hP hD hS hA (fun _ => rfl) (by decide) (by decide) (by decide) (Nat.le_of_ble_eq_true rfl) (Nat.le_of_ble_eq_true rfl) dX3_init_23 (fun q4 cAq4 H hK9 hP hD hS => ?_)
  obtain rfl := az_sameI hK hK9
  refine va_putF (D := g.1) (ci := 3) (v := .ref q4) (ty := .array .int) (C := RX3) (T := TX3) (N := 6) hx hb hts inX3_init_RX3 tyX3 tyX3_ok nmX3 hown hK hP hD hS 0 rfl rfl 2 (Nat.le_of_ble_eq_true rfl) (hts _ (List.mem_of_getElem? (i := 7) rfl)) (fun _ h9 => h9) rfl hin rfl (by decide +kernel) rfl rfl (Nat.le_of_ble_eq_true rfl) dX3_init_25 (fun H locs hP hD hS => ?_)
  have hP : va_P g.1 az_cl ([(h0, .inr (3, [.ref q2, .ref q3, .ref q4, .null, .int 0, .int 0])), (q2, .inl (g.2 0, 10, .inl (fun _ => 0))), (q3, .inl (g.2 0, 10, .inl (fun _ => 0))), (q4, .inl (g.2 0, 10, .inl (fun _ => 0)))]) _ := hP
  have hD : va_D A ([(h0, .inr (3, [.ref q2, .ref q3, .ref q4, .null, .int 0, .int 0])), (q2, .inl (g.2 0, 10, .inl (fun _ => 0))), (q3, .inl (g.2 0, 10, .inl (fun _ => 0))), (q4, .inl (g.2 0, 10, .inl (fun _ => 0)))]) := hD
  refine lv_aload_n hx hb dX3_init_28 rfl (lv_at hl 0 rfl) ?_
  refine lv_iconst (v := (2 : Int32)) hx hb dX3_init_29 (by decide) ?_
  refine va_newa (D := g.1) (atype := .int) (a0 := (2, .inl (fun _ => 0))) (N' := 2) hx hb (hts _ (List.mem_of_getElem? (i := 4) rfl)) rfl hK hP hD hS hA (fun _ => rfl) (by decide) (by decide) (by decide) (Nat.le_of_ble_eq_true rfl) (Nat.le_of_ble_eq_true rfl) dX3_init_30 (fun q5 cAq5 H hK9 hP hD hS => ?_)
  obtain rfl := az_sameI hK hK9
  refine va_putF (D := g.1) (ci := 3) (v := .ref q5) (ty := .array .int) (C := RX3) (T := TX3) (N := 6) hx hb hts inX3_init_RX3 tyX3 tyX3_ok nmX3 hown hK hP hD hS 0 rfl rfl 3 (Nat.le_of_ble_eq_true rfl) (hts _ (List.mem_of_getElem? (i := 8) rfl)) (fun _ h9 => h9) rfl hin rfl (by decide +kernel) rfl rfl (Nat.le_of_ble_eq_true rfl) dX3_init_32 (fun H locs hP hD hS => ?_)
  have hP : va_P g.1 az_cl ([(h0, .inr (3, [.ref q2, .ref q3, .ref q4, .ref q5, .int 0, .int 0])), (q2, .inl (g.2 0, 10, .inl (fun _ => 0))), (q3, .inl (g.2 0, 10, .inl (fun _ => 0))), (q4, .inl (g.2 0, 10, .inl (fun _ => 0))), (q5, .inl (g.2 0, 2, .inl (fun _ => 0)))]) _ := hP
  have hD : va_D A ([(h0, .inr (3, [.ref q2, .ref q3, .ref q4, .ref q5, .int 0, .int 0])), (q2, .inl (g.2 0, 10, .inl (fun _ => 0))), (q3, .inl (g.2 0, 10, .inl (fun _ => 0))), (q4, .inl (g.2 0, 10, .inl (fun _ => 0))), (q5, .inl (g.2 0, 2, .inl (fun _ => 0)))]) := hD
  have hP : va_P g.1 az_cl ((fun (ad : Nat → Nat) => az_cS g ad az_z) (fun i => match i with | 1 => h0 | 2 => q2 | 3 => q3 | 4 => q4 | 5 => q5 | _ => h0)) _ := hP
  have hD : va_D A ((fun (ad : Nat → Nat) => az_cS g ad az_z) (fun i => match i with | 1 => h0 | 2 => q2 | 3 => q3 | 4 => q4 | 5 => q5 | _ => h0)) := hD
  exact az_retN (fun i => match i with | 1 => h0 | 2 => q2 | 3 => q3 | 4 => q4 | 5 => q5 | _ => h0) rfl hx hb hr hlocks hK hP hD hS dX3_init_35 (Nat.le_of_ble_eq_true rfl) (Nat.le_of_ble_eq_true rfl)

theorem inX4_init_RX4 : ∀ w ∈ wsX40, w ∈ wsX4_init := az_inr [8, 9] (by decide +kernel)
set_option maxHeartbeats 8000000 in
set_option maxRecDepth 100000 in
theorem kX4_init (l : Launch) (g : az_G)  (h0 : Nat) : az_N (α := Nat → Nat) l yX4_init wsX4_init ({ frames := 1, cells := 2, slots := 100, locals := 12 } : Room) g h0 (.inr (4, [.null, .null])) (fun (ad : Nat → Nat) => ad 16 = h0) (fun (ad : Nat → Nat) => az_cP g ad az_z) 2 100 := by
  refine az_bodyN (y := yX4_init) (cc := cX4_init) (maxL := 1) (mc := 2) (ms := 100) (Qc := fun A => az_QN g (fun (ad : Nat → Nat) => ad 16 = h0) (fun (ad : Nat → Nat) => az_cP g ad az_z) A) (by decide +kernel) rfl (Nat.le_of_ble_eq_true rfl) rfl ?_
  intro p e s m args below meth c A hx hb hr hts hown hml hlocks hin hO hA hK hP hD hS ls hl
  have hl : lv_has ls 1 [(0, .ref h0)] := hl
  refine lv_aload_n hx hb dX4_init_0 rfl (lv_at hl 0 rfl) ?_
  refine W.objInit hx hb hown (hts _ (List.mem_of_getElem? (i := 1) rfl)) (hts _ (List.mem_of_getElem? (i := 2) rfl)) (hts _ (List.mem_of_getElem? (i := 3) rfl)) rfl (by rw [hml]; exact hl.1) rfl dX4_init_1 (Nat.le_of_ble_eq_true rfl) (Nat.le_of_ble_eq_true rfl) ?_
  refine W.eq (g2 := F0 m 4 ls []) rfl ?_
  refine lv_aload_n hx hb dX4_init_4 rfl (lv_at hl 0 rfl) ?_
  refine lv_iconst (v := (4 : Int32)) hx hb dX4_init_5 (by decide) ?_
  refine va_newa (D := g.1) (atype := .boolean) (a0 := (4, .inl (fun _ => 0))) (N' := 4) hx hb (hts _ (List.mem_of_getElem? (i := 4) rfl)) rfl hK hP hD hS hA (fun _ => rfl) (by decide) (by decide) (by decide) (Nat.le_of_ble_eq_true rfl) (Nat.le_of_ble_eq_true rfl) dX4_init_6 (fun q17 cAq17 H hK9 hP hD hS => ?_)
  obtain rfl := az_sameZ hK hK9
  refine va_putF (D := g.1) (ci := 4) (v := .ref q17) (ty := .array .boolean) (C := RX4) (T := TX4) (N := 2) hx hb hts inX4_init_RX4 tyX4 tyX4_ok nmX4 hown hK hP hD hS 0 rfl rfl 0 (Nat.le_of_ble_eq_true rfl) (hts _ (List.mem_of_getElem? (i := 5) rfl)) (fun _ h9 => h9) rfl hin rfl (by decide +kernel) rfl rfl (Nat.le_of_ble_eq_true rfl) dX4_init_8 (fun H locs hP hD hS => ?_)
  have hP : va_P g.1 az_cl ([(h0, .inr (4, [.ref q17, .null])), (q17, .inl (g.2 1, 4, .inl (fun _ => 0)))]) _ := hP
  have hD : va_D A ([(h0, .inr (4, [.ref q17, .null])), (q17, .inl (g.2 1, 4, .inl (fun _ => 0)))]) := hD
  refine lv_aload_n hx hb dX4_init_11 rfl (lv_at hl 0 rfl) ?_
  refine lv_bipush (v := (96 : Int32)) hx hb dX4_init_12 (by decide) ?_
  refine va_newa (D := g.1) (atype := .int) (a0 := (96, .inl (fun _ => 0))) (N' := 96) hx hb (hts _ (List.mem_of_getElem? (i := 6) rfl)) rfl hK hP hD hS hA (fun _ => rfl) (by decide) (by decide) (by decide) (Nat.le_of_ble_eq_true rfl) (Nat.le_of_ble_eq_true rfl) dX4_init_14 (fun q18 cAq18 H hK9 hP hD hS => ?_)
  obtain rfl := az_sameI hK hK9
  refine va_putF (D := g.1) (ci := 4) (v := .ref q18) (ty := .array .int) (C := RX4) (T := TX4) (N := 2) hx hb hts inX4_init_RX4 tyX4 tyX4_ok nmX4 hown hK hP hD hS 0 rfl rfl 1 (Nat.le_of_ble_eq_true rfl) (hts _ (List.mem_of_getElem? (i := 7) rfl)) (fun _ h9 => h9) rfl hin rfl (by decide +kernel) rfl rfl (Nat.le_of_ble_eq_true rfl) dX4_init_16 (fun H locs hP hD hS => ?_)
  have hP : va_P g.1 az_cl ([(h0, .inr (4, [.ref q17, .ref q18])), (q17, .inl (g.2 1, 4, .inl (fun _ => 0))), (q18, .inl (g.2 0, 96, .inl (fun _ => 0)))]) _ := hP
  have hD : va_D A ([(h0, .inr (4, [.ref q17, .ref q18])), (q17, .inl (g.2 1, 4, .inl (fun _ => 0))), (q18, .inl (g.2 0, 96, .inl (fun _ => 0)))]) := hD
  have hP : va_P g.1 az_cl ((fun (ad : Nat → Nat) => az_cP g ad az_z) (fun i => match i with | 16 => h0 | 17 => q17 | 18 => q18 | _ => h0)) _ := hP
  have hD : va_D A ((fun (ad : Nat → Nat) => az_cP g ad az_z) (fun i => match i with | 16 => h0 | 17 => q17 | 18 => q18 | _ => h0)) := hD
  exact az_retN (fun i => match i with | 16 => h0 | 17 => q17 | 18 => q18 | _ => h0) rfl hx hb hr hlocks hK hP hD hS dX4_init_19 (Nat.le_of_ble_eq_true rfl) (Nat.le_of_ble_eq_true rfl)

theorem inX5_init_RX5 : ∀ w ∈ wsX50, w ∈ wsX5_init := az_inr [55, 56, 57, 58, 59, 60, 61, 62, 63, 64, 65] (by decide +kernel)
theorem inX5_init_RX3 : ∀ w ∈ wsX30, w ∈ wsX5_init := az_inr [49, 50, 51, 52, 53, 54] (by decide +kernel)
theorem inX5_init_RX0 : ∀ w ∈ wsX00, w ∈ wsX5_init := az_inr [66, 67, 68, 69, 70, 71] (by decide +kernel)
theorem inX5_init_RX2 : ∀ w ∈ wsX20, w ∈ wsX5_init := az_inr [72, 73] (by decide +kernel)
theorem inX5_init_RX4 : ∀ w ∈ wsX40, w ∈ wsX5_init := az_inr [74, 75] (by decide +kernel)
set_option maxHeartbeats 8000000 in
set_option maxRecDepth 100000 in
theorem kX5_init (l : Launch) (g : az_G)  (h0 : Nat) : az_N (α := Nat → Nat) l yX5_init wsX5_init ({ frames := 2, cells := 19, slots := 1144, locals := 32 } : Room) g h0 (.inr (5, [.null, .null, .null, .null, .null, .int 0, .int 0, .int 0, .int 0, .int 0, .int 0])) (fun (ad : Nat → Nat) => ad 0 = h0) (fun (ad : Nat → Nat) => az_cV g ad az_z) 19 1144 := by
  refine az_bodyN (y := yX5_init) (cc := cX5_init) (maxL := 1) (mc := 19) (ms := 1144) (Qc := fun A => az_QN g (fun (ad : Nat → Nat) => ad 0 = h0) (fun (ad : Nat → Nat) => az_cV g ad az_z) A) (by decide +kernel) rfl (Nat.le_of_ble_eq_true rfl) rfl ?_
  intro p e s m args below meth c A hx hb hr hts hown hml hlocks hin hO hA hK hP hD hS ls hl
  have hl : lv_has ls 1 [(0, .ref h0)] := hl
  refine lv_aload_n hx hb dX5_init_0 rfl (lv_at hl 0 rfl) ?_
  refine W.objInit hx hb hown (hts _ (List.mem_of_getElem? (i := 1) rfl)) (hts _ (List.mem_of_getElem? (i := 2) rfl)) (hts _ (List.mem_of_getElem? (i := 3) rfl)) rfl (by rw [hml]; exact hl.1) rfl dX5_init_1 (Nat.le_of_ble_eq_true rfl) (Nat.le_of_ble_eq_true rfl) ?_
  refine W.eq (g2 := F0 m 4 ls []) rfl ?_
  refine lv_aload_n hx hb dX5_init_4 rfl (lv_at hl 0 rfl) ?_
  refine va_new (D := g.1) (ci := 3) (fs := [.null, .null, .null, .null, .int 0, .int 0]) (C := RX3) (T := TX3) (N := 6) hx hb hts inX5_init_RX3 tyX3 tyX3_ok hown (hts _ (List.mem_of_getElem? (i := 4) rfl)) (hts _ (List.mem_of_getElem? (i := 5) rfl)) (hts _ (List.mem_of_getElem? (i := 6) rfl)) hK hP hD hS hA rfl (fun j hj => by rcases (show j = 0 ∨ j = 1 ∨ j = 2 ∨ j = 3 ∨ j = 4 ∨ j = 5 by omega) with rfl | rfl | rfl | rfl | rfl | rfl <;> rfl) (Nat.le_of_ble_eq_true rfl) (Nat.le_of_ble_eq_true rfl) dX5_init_5 (fun p0 H hP hD hS => ?_)
  refine lv_dup hx hb dX5_init_8 rfl ?_
  refine az_callNN (X := [(h0, .inr (5, [.null, .null, .null, .null, .null, .int 0, .int 0, .int 0, .int 0, .int 0, .int 0]))]) ⟨hx, hb, hml, hown, hts⟩ hl.1 (kX3_init l g p0) ⟨va_cnB 0 hts gX5_init_X3_init_n11 rfl rfl rfl (hO.2 _ (List.mem_of_getElem? (i := 0) rfl)) (hts _ (List.mem_of_getElem? (i := 6) rfl)) (by decide +kernel) ⟨(Nat.le_of_ble_eq_true rfl), (Nat.le_of_ble_eq_true rfl)⟩, rfl, (hts _ (List.mem_of_getElem? (i := 22) rfl))⟩ hK hO hP hD hS hA (Nat.le_of_ble_eq_true rfl) dX5_init_9 ⟨(Nat.le_of_ble_eq_true rfl), (Nat.le_of_ble_eq_true rfl)⟩ (fun a0 H locs ha0 hP hD hS => ?_)
  rw [← ha0]
  refine va_putF (D := g.1) (ci := 5) (v := .ref (a0 1)) (ty := .object "AppendedVolume$Segments") (C := RX5) (T := TX5) (N := 11) hx hb hts inX5_init_RX5 tyX5 tyX5_ok nmX5 hown hK hP hD hS 0 rfl rfl 0 (Nat.le_of_ble_eq_true rfl) (hts _ (List.mem_of_getElem? (i := 7) rfl)) (fun _ h9 => h9) rfl hin rfl (by decide +kernel) rfl rfl (Nat.le_of_ble_eq_true rfl) dX5_init_12 (fun H locs hP hD hS => ?_)
  have hP : va_P g.1 az_cl (([(h0, .inr (5, [.ref (a0 1), .null, .null, .null, .null, .int 0, .int 0, .int 0, .int 0, .int 0, .int 0]))] ++ az_cS g a0 az_z)) _ := hP
  have hD : va_D A (([(h0, .inr (5, [.ref (a0 1), .null, .null, .null, .null, .int 0, .int 0, .int 0, .int 0, .int 0, .int 0]))] ++ az_cS g a0 az_z)) := hD
  refine lv_aload_n hx hb dX5_init_15 rfl (lv_at hl 0 rfl) ?_
  refine va_new (D := g.1) (ci := 0) (fs := [.null, .null, .null, .null, .null, .null]) (C := RX0) (T := TX0) (N := 6) hx hb hts inX5_init_RX0 tyX0 tyX0_ok hown (hts _ (List.mem_of_getElem? (i := 8) rfl)) (hts _ (List.mem_of_getElem? (i := 9) rfl)) (hts _ (List.mem_of_getElem? (i := 10) rfl)) hK hP hD hS hA rfl (fun j hj => by rcases (show j = 0 ∨ j = 1 ∨ j = 2 ∨ j = 3 ∨ j = 4 ∨ j = 5 by omega) with rfl | rfl | rfl | rfl | rfl | rfl <;> rfl) (Nat.le_of_ble_eq_true rfl) (Nat.le_of_ble_eq_true rfl) dX5_init_16 (fun p1 H hP hD hS => ?_)
  refine lv_dup hx hb dX5_init_19 rfl ?_
  refine az_callNN (X := ([(h0, .inr (5, [.ref (a0 1), .null, .null, .null, .null, .int 0, .int 0, .int 0, .int 0, .int 0, .int 0]))] ++ az_cS g a0 az_z)) ⟨hx, hb, hml, hown, hts⟩ hl.1 (kX0_init l g p1) ⟨va_cnB 0 hts gX5_init_X0_init_n20 rfl rfl rfl (hO.2 _ (List.mem_of_getElem? (i := 1) rfl)) (hts _ (List.mem_of_getElem? (i := 10) rfl)) (by decide +kernel) ⟨(Nat.le_of_ble_eq_true rfl), (Nat.le_of_ble_eq_true rfl)⟩, rfl, (hts _ (List.mem_of_getElem? (i := 29) rfl))⟩ hK hO hP hD hS hA (Nat.le_of_ble_eq_true rfl) dX5_init_20 ⟨(Nat.le_of_ble_eq_true rfl), (Nat.le_of_ble_eq_true rfl)⟩ (fun a1 H locs ha1 hP hD hS => ?_)
  rw [← ha1]
  refine va_putF (D := g.1) (ci := 5) (v := .ref (a1 6)) (ty := .object "AppendedVolume$Blocks") (C := RX5) (T := TX5) (N := 11) hx hb hts inX5_init_RX5 tyX5 tyX5_ok nmX5 hown hK hP hD hS 0 rfl rfl 1 (Nat.le_of_ble_eq_true rfl) (hts _ (List.mem_of_getElem? (i := 11) rfl)) (fun _ h9 => h9) rfl hin rfl (by decide +kernel) rfl rfl (Nat.le_of_ble_eq_true rfl) dX5_init_23 (fun H locs hP hD hS => ?_)
  have hP : va_P g.1 az_cl ((([(h0, .inr (5, [.ref (a0 1), .ref (a1 6), .null, .null, .null, .int 0, .int 0, .int 0, .int 0, .int 0, .int 0]))] ++ az_cS g a0 az_z) ++ az_cB g a1 az_z)) _ := hP
  have hD : va_D A ((([(h0, .inr (5, [.ref (a0 1), .ref (a1 6), .null, .null, .null, .int 0, .int 0, .int 0, .int 0, .int 0, .int 0]))] ++ az_cS g a0 az_z) ++ az_cB g a1 az_z)) := hD
  refine lv_aload_n hx hb dX5_init_26 rfl (lv_at hl 0 rfl) ?_
  refine va_new (D := g.1) (ci := 2) (fs := [.null, .null]) (C := RX2) (T := TX2) (N := 2) hx hb hts inX5_init_RX2 tyX2 tyX2_ok hown (hts _ (List.mem_of_getElem? (i := 12) rfl)) (hts _ (List.mem_of_getElem? (i := 13) rfl)) (hts _ (List.mem_of_getElem? (i := 14) rfl)) hK hP hD hS hA rfl (fun j hj => by rcases (show j = 0 ∨ j = 1 by omega) with rfl | rfl <;> rfl) (Nat.le_of_ble_eq_true rfl) (Nat.le_of_ble_eq_true rfl) dX5_init_27 (fun p2 H hP hD hS => ?_)
  refine lv_dup hx hb dX5_init_30 rfl ?_
  refine az_callNN (X := (([(h0, .inr (5, [.ref (a0 1), .ref (a1 6), .null, .null, .null, .int 0, .int 0, .int 0, .int 0, .int 0, .int 0]))] ++ az_cS g a0 az_z) ++ az_cB g a1 az_z)) ⟨hx, hb, hml, hown, hts⟩ hl.1 (kX2_init l g p2) ⟨va_cnB 0 hts gX5_init_X2_init_n27 rfl rfl rfl (hO.2 _ (List.mem_of_getElem? (i := 2) rfl)) (hts _ (List.mem_of_getElem? (i := 14) rfl)) (by decide +kernel) ⟨(Nat.le_of_ble_eq_true rfl), (Nat.le_of_ble_eq_true rfl)⟩, rfl, (hts _ (List.mem_of_getElem? (i := 38) rfl))⟩ hK hO hP hD hS hA (Nat.le_of_ble_eq_true rfl) dX5_init_31 ⟨(Nat.le_of_ble_eq_true rfl), (Nat.le_of_ble_eq_true rfl)⟩ (fun a2 H locs ha2 hP hD hS => ?_)
  rw [← ha2]
  refine va_putF (D := g.1) (ci := 5) (v := .ref (a2 13)) (ty := .object "AppendedVolume$Readers") (C := RX5) (T := TX5) (N := 11) hx hb hts inX5_init_RX5 tyX5 tyX5_ok nmX5 hown hK hP hD hS 0 rfl rfl 2 (Nat.le_of_ble_eq_true rfl) (hts _ (List.mem_of_getElem? (i := 15) rfl)) (fun _ h9 => h9) rfl hin rfl (by decide +kernel) rfl rfl (Nat.le_of_ble_eq_true rfl) dX5_init_34 (fun H locs hP hD hS => ?_)
  have hP : va_P g.1 az_cl (((([(h0, .inr (5, [.ref (a0 1), .ref (a1 6), .ref (a2 13), .null, .null, .int 0, .int 0, .int 0, .int 0, .int 0, .int 0]))] ++ az_cS g a0 az_z) ++ az_cB g a1 az_z) ++ az_cR g a2 az_z)) _ := hP
  have hD : va_D A (((([(h0, .inr (5, [.ref (a0 1), .ref (a1 6), .ref (a2 13), .null, .null, .int 0, .int 0, .int 0, .int 0, .int 0, .int 0]))] ++ az_cS g a0 az_z) ++ az_cB g a1 az_z) ++ az_cR g a2 az_z)) := hD
  refine lv_aload_n hx hb dX5_init_37 rfl (lv_at hl 0 rfl) ?_
  refine va_new (D := g.1) (ci := 4) (fs := [.null, .null]) (C := RX4) (T := TX4) (N := 2) hx hb hts inX5_init_RX4 tyX4 tyX4_ok hown (hts _ (List.mem_of_getElem? (i := 16) rfl)) (hts _ (List.mem_of_getElem? (i := 17) rfl)) (hts _ (List.mem_of_getElem? (i := 18) rfl)) hK hP hD hS hA rfl (fun j hj => by rcases (show j = 0 ∨ j = 1 by omega) with rfl | rfl <;> rfl) (Nat.le_of_ble_eq_true rfl) (Nat.le_of_ble_eq_true rfl) dX5_init_38 (fun p3 H hP hD hS => ?_)
  refine lv_dup hx hb dX5_init_41 rfl ?_
  refine az_callNN (X := ((([(h0, .inr (5, [.ref (a0 1), .ref (a1 6), .ref (a2 13), .null, .null, .int 0, .int 0, .int 0, .int 0, .int 0, .int 0]))] ++ az_cS g a0 az_z) ++ az_cB g a1 az_z) ++ az_cR g a2 az_z)) ⟨hx, hb, hml, hown, hts⟩ hl.1 (kX4_init l g p3) ⟨va_cnB 0 hts gX5_init_X4_init_n34 rfl rfl rfl (hO.2 _ (List.mem_of_getElem? (i := 3) rfl)) (hts _ (List.mem_of_getElem? (i := 18) rfl)) (by decide +kernel) ⟨(Nat.le_of_ble_eq_true rfl), (Nat.le_of_ble_eq_true rfl)⟩, rfl, (hts _ (List.mem_of_getElem? (i := 43) rfl))⟩ hK hO hP hD hS hA (Nat.le_of_ble_eq_true rfl) dX5_init_42 ⟨(Nat.le_of_ble_eq_true rfl), (Nat.le_of_ble_eq_true rfl)⟩ (fun a3 H locs ha3 hP hD hS => ?_)
  rw [← ha3]
  refine va_putF (D := g.1) (ci := 5) (v := .ref (a3 16)) (ty := .object "AppendedVolume$Snapshots") (C := RX5) (T := TX5) (N := 11) hx hb hts inX5_init_RX5 tyX5 tyX5_ok nmX5 hown hK hP hD hS 0 rfl rfl 3 (Nat.le_of_ble_eq_true rfl) (hts _ (List.mem_of_getElem? (i := 19) rfl)) (fun _ h9 => h9) rfl hin rfl (by decide +kernel) rfl rfl (Nat.le_of_ble_eq_true rfl) dX5_init_45 (fun H locs hP hD hS => ?_)
  have hP : va_P g.1 az_cl ((((([(h0, .inr (5, [.ref (a0 1), .ref (a1 6), .ref (a2 13), .ref (a3 16), .null, .int 0, .int 0, .int 0, .int 0, .int 0, .int 0]))] ++ az_cS g a0 az_z) ++ az_cB g a1 az_z) ++ az_cR g a2 az_z) ++ az_cP g a3 az_z)) _ := hP
  have hD : va_D A ((((([(h0, .inr (5, [.ref (a0 1), .ref (a1 6), .ref (a2 13), .ref (a3 16), .null, .int 0, .int 0, .int 0, .int 0, .int 0, .int 0]))] ++ az_cS g a0 az_z) ++ az_cB g a1 az_z) ++ az_cR g a2 az_z) ++ az_cP g a3 az_z)) := hD
  refine lv_aload_n hx hb dX5_init_48 rfl (lv_at hl 0 rfl) ?_
  refine lv_bipush (v := (24 : Int32)) hx hb dX5_init_49 (by decide) ?_
  refine va_newa (D := g.1) (atype := .int) (a0 := (24, .inl (fun _ => 0))) (N' := 24) hx hb (hts _ (List.mem_of_getElem? (i := 20) rfl)) rfl hK hP hD hS hA (fun _ => rfl) (by decide) (by decide) (by decide) (Nat.le_of_ble_eq_true rfl) (Nat.le_of_ble_eq_true rfl) dX5_init_51 (fun q19 cAq19 H hK9 hP hD hS => ?_)
  obtain rfl := az_sameI hK hK9
  refine va_putF (D := g.1) (ci := 5) (v := .ref q19) (ty := .array .int) (C := RX5) (T := TX5) (N := 11) hx hb hts inX5_init_RX5 tyX5 tyX5_ok nmX5 hown hK hP hD hS 0 rfl rfl 4 (Nat.le_of_ble_eq_true rfl) (hts _ (List.mem_of_getElem? (i := 21) rfl)) (fun _ h9 => h9) rfl hin rfl (by decide +kernel) rfl rfl (Nat.le_of_ble_eq_true rfl) dX5_init_53 (fun H locs hP hD hS => ?_)
  have hP : va_P g.1 az_cl (((((([(h0, .inr (5, [.ref (a0 1), .ref (a1 6), .ref (a2 13), .ref (a3 16), .ref q19, .int 0, .int 0, .int 0, .int 0, .int 0, .int 0]))] ++ az_cS g a0 az_z) ++ az_cB g a1 az_z) ++ az_cR g a2 az_z) ++ az_cP g a3 az_z) ++ [(q19, .inl (g.2 0, 24, .inl (fun _ => 0)))])) _ := hP
  have hD : va_D A (((((([(h0, .inr (5, [.ref (a0 1), .ref (a1 6), .ref (a2 13), .ref (a3 16), .ref q19, .int 0, .int 0, .int 0, .int 0, .int 0, .int 0]))] ++ az_cS g a0 az_z) ++ az_cB g a1 az_z) ++ az_cR g a2 az_z) ++ az_cP g a3 az_z) ++ [(q19, .inl (g.2 0, 24, .inl (fun _ => 0)))])) := hD
  have hP : va_P g.1 az_cl ((fun (ad : Nat → Nat) => az_cV g ad az_z) (fun i => match i with | 0 => h0 | 1 => a0 1 | 2 => a0 2 | 3 => a0 3 | 4 => a0 4 | 5 => a0 5 | 6 => a1 6 | 7 => a1 7 | 8 => a1 8 | 9 => a1 9 | 10 => a1 10 | 11 => a1 11 | 12 => a1 12 | 13 => a2 13 | 14 => a2 14 | 15 => a2 15 | 16 => a3 16 | 17 => a3 17 | 18 => a3 18 | _ => q19)) _ := hP
  have hD : va_D A ((fun (ad : Nat → Nat) => az_cV g ad az_z) (fun i => match i with | 0 => h0 | 1 => a0 1 | 2 => a0 2 | 3 => a0 3 | 4 => a0 4 | 5 => a0 5 | 6 => a1 6 | 7 => a1 7 | 8 => a1 8 | 9 => a1 9 | 10 => a1 10 | 11 => a1 11 | 12 => a1 12 | 13 => a2 13 | 14 => a2 14 | 15 => a2 15 | 16 => a3 16 | 17 => a3 17 | 18 => a3 18 | _ => q19)) := hD
  exact az_retN (fun i => match i with | 0 => h0 | 1 => a0 1 | 2 => a0 2 | 3 => a0 3 | 4 => a0 4 | 5 => a0 5 | 6 => a1 6 | 7 => a1 7 | 8 => a1 8 | 9 => a1 9 | 10 => a1 10 | 11 => a1 11 | 12 => a1 12 | 13 => a2 13 | 14 => a2 14 | 15 => a2 15 | 16 => a3 16 | 17 => a3 17 | 18 => a3 18 | _ => q19) rfl hx hb hr hlocks hK hP hD hS dX5_init_56 (Nat.le_of_ble_eq_true rfl) (Nat.le_of_ble_eq_true rfl)

theorem inX1_init_RX1 : ∀ w ∈ wsX10, w ∈ wsX1_init := az_inr [56, 57, 58] (by decide +kernel)
theorem inX1_init_RX5 : ∀ w ∈ wsX50, w ∈ wsX1_init := az_inr [59, 60, 61, 62, 63, 64, 65, 66, 67, 68, 69] (by decide +kernel)
set_option maxHeartbeats 8000000 in
set_option maxRecDepth 100000 in
theorem kX1_init (l : Launch) (g : az_G)  (h0 : Nat) : az_N (α := (Nat → Nat) × (Nat → Nat → Nat)) l yX1_init wsX1_init ({ frames := 3, cells := 161, slots := 9248, locals := 52 } : Room) g h0 (.inr (1, [.null, .int 0, .int 0])) (fun (u : (Nat → Nat) × (Nat → Nat → Nat)) => u.1 1 = h0) (fun (u : (Nat → Nat) × (Nat → Nat → Nat)) => az_cH g u.1 u.2 (fun _ => az_z) (fun _ => 0)) 161 9248 := by
  refine az_bodyN (y := yX1_init) (cc := cX1_init) (maxL := 2) (mc := 161) (ms := 9248) (Qc := fun A => az_QN g (fun (u : (Nat → Nat) × (Nat → Nat → Nat)) => u.1 1 = h0) (fun (u : (Nat → Nat) × (Nat → Nat → Nat)) => az_cH g u.1 u.2 (fun _ => az_z) (fun _ => 0)) A) (by decide +kernel) rfl (Nat.le_of_ble_eq_true rfl) rfl ?_
  intro p e s m args below meth c A hx hb hr hts hown hml hlocks hin hO hA hK hP hD hS ls hl
  have hl : lv_has ls 2 [(0, .ref h0)] := hl
  refine lv_aload_n hx hb dX1_init_0 rfl (lv_at hl 0 rfl) ?_
  refine W.objInit hx hb hown (hts _ (List.mem_of_getElem? (i := 1) rfl)) (hts _ (List.mem_of_getElem? (i := 2) rfl)) (hts _ (List.mem_of_getElem? (i := 3) rfl)) rfl (by rw [hml]; exact hl.1) rfl dX1_init_1 (Nat.le_of_ble_eq_true rfl) (Nat.le_of_ble_eq_true rfl) ?_
  refine W.eq (g2 := F0 m 4 ls []) rfl ?_
  refine lv_aload_n hx hb dX1_init_4 rfl (lv_at hl 0 rfl) ?_
  refine lv_bipush (v := (8 : Int32)) hx hb dX1_init_5 (by decide) ?_
  refine va_newq (D := g.1) (N' := 8) hx hb hown (hts _ (List.mem_of_getElem? (i := 4) rfl)) hO.1 hK hP hD hS hA (by decide) (by decide) (by decide) (Nat.le_of_ble_eq_true rfl) (Nat.le_of_ble_eq_true rfl) dX1_init_7 (fun qa cAq H hK9 hP hD hS => ?_)
  obtain rfl := az_sameO hK hK9
  refine va_putF (D := g.1) (ci := 1) (v := .ref qa) (ty := .array (.object "AppendedVolume$Volume")) (C := RX1) (T := TX1) (N := 3) hx hb hts inX1_init_RX1 tyX1 tyX1_ok nmX1 hown hK hP hD hS 0 rfl rfl 0 (Nat.le_of_ble_eq_true rfl) (hts _ (List.mem_of_getElem? (i := 5) rfl)) (fun _ h9 => h9) rfl hin rfl (by decide +kernel) rfl rfl (Nat.le_of_ble_eq_true rfl) dX1_init_10 (fun H locs hP hD hS => ?_)
  have hP : va_P g.1 az_cl ([(h0, .inr (1, [.ref qa, .int 0, .int 0])), (qa, .inl (g.2 3, 8, .inr (.inr (.inr (.inr (fun _ => none))))))]) _ := hP
  have hD : va_D A ([(h0, .inr (1, [.ref qa, .int 0, .int 0])), (qa, .inl (g.2 3, 8, .inr (.inr (.inr (.inr (fun _ => none))))))]) := hD
  refine lv_iconst (v := (0 : Int32)) hx hb dX1_init_13 (by decide) ?_
  refine lv_istore_n (lv' := [(1, .int (0 : Int32)), (0, .ref h0)]) hx hb dX1_init_14 rfl hl (by decide) rfl (fun ls hl => ?_)
  refine lv_iload_n hx hb dX1_init_15 rfl (lv_at hl 0 rfl) ?_
  refine lv_bipush (v := (8 : Int32)) hx hb dX1_init_16 (by decide) ?_
  refine lv_icmp_ge (tgt := 40) hx hb dX1_init_18 (by decide) (fun c9 => absurd c9 (by decide)) (fun _ => ?_)
  refine lv_aload_n hx hb dX1_init_21 rfl (lv_at hl 1 rfl) ?_
  refine va_get (D := g.1) (ci := 1) (v := .ref qa) (C := RX1) (T := TX1) (N := 3) hx hb hts inX1_init_RX1 hown hK hP 0 rfl rfl 0 (Nat.le_of_ble_eq_true rfl) (hts _ (List.mem_of_getElem? (i := 5) rfl)) (fun _ h9 => h9) rfl dX1_init_22 ?_
  refine lv_iload_n hx hb dX1_init_25 rfl (lv_at hl 0 rfl) ?_
  refine va_new (D := g.1) (ci := 5) (fs := [.null, .null, .null, .null, .null, .int 0, .int 0, .int 0, .int 0, .int 0, .int 0]) (C := RX5) (T := TX5) (N := 11) hx hb hts inX1_init_RX5 tyX5 tyX5_ok hown (hts _ (List.mem_of_getElem? (i := 4) rfl)) (hts _ (List.mem_of_getElem? (i := 6) rfl)) (hts _ (List.mem_of_getElem? (i := 7) rfl)) hK hP hD hS hA rfl (fun j hj => by rcases (show j = 0 ∨ j = 1 ∨ j = 2 ∨ j = 3 ∨ j = 4 ∨ j = 5 ∨ j = 6 ∨ j = 7 ∨ j = 8 ∨ j = 9 ∨ j = 10 by omega) with rfl | rfl | rfl | rfl | rfl | rfl | rfl | rfl | rfl | rfl | rfl <;> rfl) (Nat.le_of_ble_eq_true rfl) (Nat.le_of_ble_eq_true rfl) dX1_init_26 (fun p0 H hP hD hS => ?_)
  refine lv_dup hx hb dX1_init_29 rfl ?_
  refine az_callNN (X := [(h0, .inr (1, [.ref qa, .int 0, .int 0])), (qa, .inl (g.2 3, 8, .inr (.inr (.inr (.inr (fun _ => none))))))]) ⟨hx, hb, hml, hown, hts⟩ hl.1 (kX5_init l g p0) ⟨va_cnB 0 hts gX1_init_X5_init_n17 rfl rfl rfl (hO.2 _ (List.mem_of_getElem? (i := 4) rfl)) (hts _ (List.mem_of_getElem? (i := 7) rfl)) (by decide +kernel) ⟨(Nat.le_of_ble_eq_true rfl), (Nat.le_of_ble_eq_true rfl)⟩, rfl, (hts _ (List.mem_of_getElem? (i := 8) rfl))⟩ hK hO hP hD hS hA (Nat.le_of_ble_eq_true rfl) dX1_init_30 ⟨(Nat.le_of_ble_eq_true rfl), (Nat.le_of_ble_eq_true rfl)⟩ (fun a0 H locs ha0 hP hD hS => ?_)
  rw [← ha0]
  have hP : va_P g.1 az_cl (([(h0, .inr (1, [.ref qa, .int 0, .int 0])), (qa, .inl (g.2 3, 8, .inr (.inr (.inr (.inr (fun _ => none))))))] ++ az_cV g a0 az_z)) _ := hP
  have hD : va_D A (([(h0, .inr (1, [.ref qa, .int 0, .int 0])), (qa, .inl (g.2 3, 8, .inr (.inr (.inr (.inr (fun _ => none))))))] ++ az_cV g a0 az_z)) := hD
  refine va_astq (D := g.1) (f := fun _ => none) hx hb hK hP hD hS 1 3 2 5 rfl rfl rfl rfl (az_vin (by decide +kernel)) dX1_init_33 (fun H locs hP hD hS => ?_)
  have hP : va_P g.1 az_cl (([(h0, .inr (1, [.ref qa, .int 0, .int 0])), (qa, .inl (g.2 3, 8, .inr (.inr (.inr (.inr (va_up (fun _ => none) 0 (some (a0 0))))))))] ++ az_cV g a0 az_z)) _ := hP
  have hD : va_D A (([(h0, .inr (1, [.ref qa, .int 0, .int 0])), (qa, .inl (g.2 3, 8, .inr (.inr (.inr (.inr (va_up (fun _ => none) 0 (some (a0 0))))))))] ++ az_cV g a0 az_z)) := hD
  refine lv_iinc (v := (1 : Int32)) (lv' := [(1, .int (1 : Int32)), (0, .ref h0)]) hx hb dX1_init_34 hl (k := 0) rfl (by decide) (by decide) rfl (fun ls hl => ?_)
  refine lv_goto (tgt := 15) hx hb dX1_init_37 (by decide) ?_
  refine lv_iload_n hx hb dX1_init_15 rfl (lv_at hl 0 rfl) ?_
  refine lv_bipush (v := (8 : Int32)) hx hb dX1_init_16 (by decide) ?_
  refine lv_icmp_ge (tgt := 40) hx hb dX1_init_18 (by decide) (fun c9 => absurd c9 (by decide)) (fun _ => ?_)
  refine lv_aload_n hx hb dX1_init_21 rfl (lv_at hl 1 rfl) ?_
  refine va_get (D := g.1) (ci := 1) (v := .ref qa) (C := RX1) (T := TX1) (N := 3) hx hb hts inX1_init_RX1 hown hK hP 0 rfl rfl 0 (Nat.le_of_ble_eq_true rfl) (hts _ (List.mem_of_getElem? (i := 5) rfl)) (fun _ h9 => h9) rfl dX1_init_22 ?_
  refine lv_iload_n hx hb dX1_init_25 rfl (lv_at hl 0 rfl) ?_
  refine va_new (D := g.1) (ci := 5) (fs := [.null, .null, .null, .null, .null, .int 0, .int 0, .int 0, .int 0, .int 0, .int 0]) (C := RX5) (T := TX5) (N := 11) hx hb hts inX1_init_RX5 tyX5 tyX5_ok hown (hts _ (List.mem_of_getElem? (i := 4) rfl)) (hts _ (List.mem_of_getElem? (i := 6) rfl)) (hts _ (List.mem_of_getElem? (i := 7) rfl)) hK hP hD hS hA rfl (fun j hj => by rcases (show j = 0 ∨ j = 1 ∨ j = 2 ∨ j = 3 ∨ j = 4 ∨ j = 5 ∨ j = 6 ∨ j = 7 ∨ j = 8 ∨ j = 9 ∨ j = 10 by omega) with rfl | rfl | rfl | rfl | rfl | rfl | rfl | rfl | rfl | rfl | rfl <;> rfl) (Nat.le_of_ble_eq_true rfl) (Nat.le_of_ble_eq_true rfl) dX1_init_26 (fun p1 H hP hD hS => ?_)
  refine lv_dup hx hb dX1_init_29 rfl ?_
  refine az_callNN (X := ([(h0, .inr (1, [.ref qa, .int 0, .int 0])), (qa, .inl (g.2 3, 8, .inr (.inr (.inr (.inr (va_up (fun _ => none) 0 (some (a0 0))))))))] ++ az_cV g a0 az_z)) ⟨hx, hb, hml, hown, hts⟩ hl.1 (kX5_init l g p1) ⟨va_cnB 0 hts gX1_init_X5_init_n17 rfl rfl rfl (hO.2 _ (List.mem_of_getElem? (i := 4) rfl)) (hts _ (List.mem_of_getElem? (i := 7) rfl)) (by decide +kernel) ⟨(Nat.le_of_ble_eq_true rfl), (Nat.le_of_ble_eq_true rfl)⟩, rfl, (hts _ (List.mem_of_getElem? (i := 8) rfl))⟩ hK hO hP hD hS hA (Nat.le_of_ble_eq_true rfl) dX1_init_30 ⟨(Nat.le_of_ble_eq_true rfl), (Nat.le_of_ble_eq_true rfl)⟩ (fun a1 H locs ha1 hP hD hS => ?_)
  rw [← ha1]
  have hP : va_P g.1 az_cl ((([(h0, .inr (1, [.ref qa, .int 0, .int 0])), (qa, .inl (g.2 3, 8, .inr (.inr (.inr (.inr (va_up (fun _ => none) 0 (some (a0 0))))))))] ++ az_cV g a0 az_z) ++ az_cV g a1 az_z)) _ := hP
  have hD : va_D A ((([(h0, .inr (1, [.ref qa, .int 0, .int 0])), (qa, .inl (g.2 3, 8, .inr (.inr (.inr (.inr (va_up (fun _ => none) 0 (some (a0 0))))))))] ++ az_cV g a0 az_z) ++ az_cV g a1 az_z)) := hD
  refine va_astq (D := g.1) (f := va_up (fun _ => none) 0 (some (a0 0))) hx hb hK hP hD hS 1 3 22 5 rfl rfl rfl rfl (az_vin (by decide +kernel)) dX1_init_33 (fun H locs hP hD hS => ?_)
  have hP : va_P g.1 az_cl ((([(h0, .inr (1, [.ref qa, .int 0, .int 0])), (qa, .inl (g.2 3, 8, .inr (.inr (.inr (.inr (va_up (va_up (fun _ => none) 0 (some (a0 0))) 1 (some (a1 0))))))))] ++ az_cV g a0 az_z) ++ az_cV g a1 az_z)) _ := hP
  have hD : va_D A ((([(h0, .inr (1, [.ref qa, .int 0, .int 0])), (qa, .inl (g.2 3, 8, .inr (.inr (.inr (.inr (va_up (va_up (fun _ => none) 0 (some (a0 0))) 1 (some (a1 0))))))))] ++ az_cV g a0 az_z) ++ az_cV g a1 az_z)) := hD
  refine lv_iinc (v := (2 : Int32)) (lv' := [(1, .int (2 : Int32)), (0, .ref h0)]) hx hb dX1_init_34 hl (k := 0) rfl (by decide) (by decide) rfl (fun ls hl => ?_)
  refine lv_goto (tgt := 15) hx hb dX1_init_37 (by decide) ?_
  refine lv_iload_n hx hb dX1_init_15 rfl (lv_at hl 0 rfl) ?_
  refine lv_bipush (v := (8 : Int32)) hx hb dX1_init_16 (by decide) ?_
  refine lv_icmp_ge (tgt := 40) hx hb dX1_init_18 (by decide) (fun c9 => absurd c9 (by decide)) (fun _ => ?_)
  refine lv_aload_n hx hb dX1_init_21 rfl (lv_at hl 1 rfl) ?_
  refine va_get (D := g.1) (ci := 1) (v := .ref qa) (C := RX1) (T := TX1) (N := 3) hx hb hts inX1_init_RX1 hown hK hP 0 rfl rfl 0 (Nat.le_of_ble_eq_true rfl) (hts _ (List.mem_of_getElem? (i := 5) rfl)) (fun _ h9 => h9) rfl dX1_init_22 ?_
  refine lv_iload_n hx hb dX1_init_25 rfl (lv_at hl 0 rfl) ?_
  refine va_new (D := g.1) (ci := 5) (fs := [.null, .null, .null, .null, .null, .int 0, .int 0, .int 0, .int 0, .int 0, .int 0]) (C := RX5) (T := TX5) (N := 11) hx hb hts inX1_init_RX5 tyX5 tyX5_ok hown (hts _ (List.mem_of_getElem? (i := 4) rfl)) (hts _ (List.mem_of_getElem? (i := 6) rfl)) (hts _ (List.mem_of_getElem? (i := 7) rfl)) hK hP hD hS hA rfl (fun j hj => by rcases (show j = 0 ∨ j = 1 ∨ j = 2 ∨ j = 3 ∨ j = 4 ∨ j = 5 ∨ j = 6 ∨ j = 7 ∨ j = 8 ∨ j = 9 ∨ j = 10 by omega) with rfl | rfl | rfl | rfl | rfl | rfl | rfl | rfl | rfl | rfl | rfl <;> rfl) (Nat.le_of_ble_eq_true rfl) (Nat.le_of_ble_eq_true rfl) dX1_init_26 (fun p2 H hP hD hS => ?_)
  refine lv_dup hx hb dX1_init_29 rfl ?_
  refine az_callNN (X := (([(h0, .inr (1, [.ref qa, .int 0, .int 0])), (qa, .inl (g.2 3, 8, .inr (.inr (.inr (.inr (va_up (va_up (fun _ => none) 0 (some (a0 0))) 1 (some (a1 0))))))))] ++ az_cV g a0 az_z) ++ az_cV g a1 az_z)) ⟨hx, hb, hml, hown, hts⟩ hl.1 (kX5_init l g p2) ⟨va_cnB 0 hts gX1_init_X5_init_n17 rfl rfl rfl (hO.2 _ (List.mem_of_getElem? (i := 4) rfl)) (hts _ (List.mem_of_getElem? (i := 7) rfl)) (by decide +kernel) ⟨(Nat.le_of_ble_eq_true rfl), (Nat.le_of_ble_eq_true rfl)⟩, rfl, (hts _ (List.mem_of_getElem? (i := 8) rfl))⟩ hK hO hP hD hS hA (Nat.le_of_ble_eq_true rfl) dX1_init_30 ⟨(Nat.le_of_ble_eq_true rfl), (Nat.le_of_ble_eq_true rfl)⟩ (fun a2 H locs ha2 hP hD hS => ?_)
  rw [← ha2]
  have hP : va_P g.1 az_cl (((([(h0, .inr (1, [.ref qa, .int 0, .int 0])), (qa, .inl (g.2 3, 8, .inr (.inr (.inr (.inr (va_up (va_up (fun _ => none) 0 (some (a0 0))) 1 (some (a1 0))))))))] ++ az_cV g a0 az_z) ++ az_cV g a1 az_z) ++ az_cV g a2 az_z)) _ := hP
  have hD : va_D A (((([(h0, .inr (1, [.ref qa, .int 0, .int 0])), (qa, .inl (g.2 3, 8, .inr (.inr (.inr (.inr (va_up (va_up (fun _ => none) 0 (some (a0 0))) 1 (some (a1 0))))))))] ++ az_cV g a0 az_z) ++ az_cV g a1 az_z) ++ az_cV g a2 az_z)) := hD
  refine va_astq (D := g.1) (f := va_up (va_up (fun _ => none) 0 (some (a0 0))) 1 (some (a1 0))) hx hb hK hP hD hS 1 3 42 5 rfl rfl rfl rfl (az_vin (by decide +kernel)) dX1_init_33 (fun H locs hP hD hS => ?_)
  have hP : va_P g.1 az_cl (((([(h0, .inr (1, [.ref qa, .int 0, .int 0])), (qa, .inl (g.2 3, 8, .inr (.inr (.inr (.inr (va_up (va_up (va_up (fun _ => none) 0 (some (a0 0))) 1 (some (a1 0))) 2 (some (a2 0))))))))] ++ az_cV g a0 az_z) ++ az_cV g a1 az_z) ++ az_cV g a2 az_z)) _ := hP
  have hD : va_D A (((([(h0, .inr (1, [.ref qa, .int 0, .int 0])), (qa, .inl (g.2 3, 8, .inr (.inr (.inr (.inr (va_up (va_up (va_up (fun _ => none) 0 (some (a0 0))) 1 (some (a1 0))) 2 (some (a2 0))))))))] ++ az_cV g a0 az_z) ++ az_cV g a1 az_z) ++ az_cV g a2 az_z)) := hD
  refine lv_iinc (v := (3 : Int32)) (lv' := [(1, .int (3 : Int32)), (0, .ref h0)]) hx hb dX1_init_34 hl (k := 0) rfl (by decide) (by decide) rfl (fun ls hl => ?_)
  refine lv_goto (tgt := 15) hx hb dX1_init_37 (by decide) ?_
  refine lv_iload_n hx hb dX1_init_15 rfl (lv_at hl 0 rfl) ?_
  refine lv_bipush (v := (8 : Int32)) hx hb dX1_init_16 (by decide) ?_
  refine lv_icmp_ge (tgt := 40) hx hb dX1_init_18 (by decide) (fun c9 => absurd c9 (by decide)) (fun _ => ?_)
  refine lv_aload_n hx hb dX1_init_21 rfl (lv_at hl 1 rfl) ?_
  refine va_get (D := g.1) (ci := 1) (v := .ref qa) (C := RX1) (T := TX1) (N := 3) hx hb hts inX1_init_RX1 hown hK hP 0 rfl rfl 0 (Nat.le_of_ble_eq_true rfl) (hts _ (List.mem_of_getElem? (i := 5) rfl)) (fun _ h9 => h9) rfl dX1_init_22 ?_
  refine lv_iload_n hx hb dX1_init_25 rfl (lv_at hl 0 rfl) ?_
  refine va_new (D := g.1) (ci := 5) (fs := [.null, .null, .null, .null, .null, .int 0, .int 0, .int 0, .int 0, .int 0, .int 0]) (C := RX5) (T := TX5) (N := 11) hx hb hts inX1_init_RX5 tyX5 tyX5_ok hown (hts _ (List.mem_of_getElem? (i := 4) rfl)) (hts _ (List.mem_of_getElem? (i := 6) rfl)) (hts _ (List.mem_of_getElem? (i := 7) rfl)) hK hP hD hS hA rfl (fun j hj => by rcases (show j = 0 ∨ j = 1 ∨ j = 2 ∨ j = 3 ∨ j = 4 ∨ j = 5 ∨ j = 6 ∨ j = 7 ∨ j = 8 ∨ j = 9 ∨ j = 10 by omega) with rfl | rfl | rfl | rfl | rfl | rfl | rfl | rfl | rfl | rfl | rfl <;> rfl) (Nat.le_of_ble_eq_true rfl) (Nat.le_of_ble_eq_true rfl) dX1_init_26 (fun p3 H hP hD hS => ?_)
  refine lv_dup hx hb dX1_init_29 rfl ?_
  refine az_callNN (X := ((([(h0, .inr (1, [.ref qa, .int 0, .int 0])), (qa, .inl (g.2 3, 8, .inr (.inr (.inr (.inr (va_up (va_up (va_up (fun _ => none) 0 (some (a0 0))) 1 (some (a1 0))) 2 (some (a2 0))))))))] ++ az_cV g a0 az_z) ++ az_cV g a1 az_z) ++ az_cV g a2 az_z)) ⟨hx, hb, hml, hown, hts⟩ hl.1 (kX5_init l g p3) ⟨va_cnB 0 hts gX1_init_X5_init_n17 rfl rfl rfl (hO.2 _ (List.mem_of_getElem? (i := 4) rfl)) (hts _ (List.mem_of_getElem? (i := 7) rfl)) (by decide +kernel) ⟨(Nat.le_of_ble_eq_true rfl), (Nat.le_of_ble_eq_true rfl)⟩, rfl, (hts _ (List.mem_of_getElem? (i := 8) rfl))⟩ hK hO hP hD hS hA (Nat.le_of_ble_eq_true rfl) dX1_init_30 ⟨(Nat.le_of_ble_eq_true rfl), (Nat.le_of_ble_eq_true rfl)⟩ (fun a3 H locs ha3 hP hD hS => ?_)
  rw [← ha3]
  have hP : va_P g.1 az_cl ((((([(h0, .inr (1, [.ref qa, .int 0, .int 0])), (qa, .inl (g.2 3, 8, .inr (.inr (.inr (.inr (va_up (va_up (va_up (fun _ => none) 0 (some (a0 0))) 1 (some (a1 0))) 2 (some (a2 0))))))))] ++ az_cV g a0 az_z) ++ az_cV g a1 az_z) ++ az_cV g a2 az_z) ++ az_cV g a3 az_z)) _ := hP
  have hD : va_D A ((((([(h0, .inr (1, [.ref qa, .int 0, .int 0])), (qa, .inl (g.2 3, 8, .inr (.inr (.inr (.inr (va_up (va_up (va_up (fun _ => none) 0 (some (a0 0))) 1 (some (a1 0))) 2 (some (a2 0))))))))] ++ az_cV g a0 az_z) ++ az_cV g a1 az_z) ++ az_cV g a2 az_z) ++ az_cV g a3 az_z)) := hD
  refine va_astq (D := g.1) (f := va_up (va_up (va_up (fun _ => none) 0 (some (a0 0))) 1 (some (a1 0))) 2 (some (a2 0))) hx hb hK hP hD hS 1 3 62 5 rfl rfl rfl rfl (az_vin (by decide +kernel)) dX1_init_33 (fun H locs hP hD hS => ?_)
  have hP : va_P g.1 az_cl ((((([(h0, .inr (1, [.ref qa, .int 0, .int 0])), (qa, .inl (g.2 3, 8, .inr (.inr (.inr (.inr (va_up (va_up (va_up (va_up (fun _ => none) 0 (some (a0 0))) 1 (some (a1 0))) 2 (some (a2 0))) 3 (some (a3 0))))))))] ++ az_cV g a0 az_z) ++ az_cV g a1 az_z) ++ az_cV g a2 az_z) ++ az_cV g a3 az_z)) _ := hP
  have hD : va_D A ((((([(h0, .inr (1, [.ref qa, .int 0, .int 0])), (qa, .inl (g.2 3, 8, .inr (.inr (.inr (.inr (va_up (va_up (va_up (va_up (fun _ => none) 0 (some (a0 0))) 1 (some (a1 0))) 2 (some (a2 0))) 3 (some (a3 0))))))))] ++ az_cV g a0 az_z) ++ az_cV g a1 az_z) ++ az_cV g a2 az_z) ++ az_cV g a3 az_z)) := hD
  refine lv_iinc (v := (4 : Int32)) (lv' := [(1, .int (4 : Int32)), (0, .ref h0)]) hx hb dX1_init_34 hl (k := 0) rfl (by decide) (by decide) rfl (fun ls hl => ?_)
  refine lv_goto (tgt := 15) hx hb dX1_init_37 (by decide) ?_
  refine lv_iload_n hx hb dX1_init_15 rfl (lv_at hl 0 rfl) ?_
  refine lv_bipush (v := (8 : Int32)) hx hb dX1_init_16 (by decide) ?_
  refine lv_icmp_ge (tgt := 40) hx hb dX1_init_18 (by decide) (fun c9 => absurd c9 (by decide)) (fun _ => ?_)
  refine lv_aload_n hx hb dX1_init_21 rfl (lv_at hl 1 rfl) ?_
  refine va_get (D := g.1) (ci := 1) (v := .ref qa) (C := RX1) (T := TX1) (N := 3) hx hb hts inX1_init_RX1 hown hK hP 0 rfl rfl 0 (Nat.le_of_ble_eq_true rfl) (hts _ (List.mem_of_getElem? (i := 5) rfl)) (fun _ h9 => h9) rfl dX1_init_22 ?_
  refine lv_iload_n hx hb dX1_init_25 rfl (lv_at hl 0 rfl) ?_
  refine va_new (D := g.1) (ci := 5) (fs := [.null, .null, .null, .null, .null, .int 0, .int 0, .int 0, .int 0, .int 0, .int 0]) (C := RX5) (T := TX5) (N := 11) hx hb hts inX1_init_RX5 tyX5 tyX5_ok hown (hts _ (List.mem_of_getElem? (i := 4) rfl)) (hts _ (List.mem_of_getElem? (i := 6) rfl)) (hts _ (List.mem_of_getElem? (i := 7) rfl)) hK hP hD hS hA rfl (fun j hj => by rcases (show j = 0 ∨ j = 1 ∨ j = 2 ∨ j = 3 ∨ j = 4 ∨ j = 5 ∨ j = 6 ∨ j = 7 ∨ j = 8 ∨ j = 9 ∨ j = 10 by omega) with rfl | rfl | rfl | rfl | rfl | rfl | rfl | rfl | rfl | rfl | rfl <;> rfl) (Nat.le_of_ble_eq_true rfl) (Nat.le_of_ble_eq_true rfl) dX1_init_26 (fun p4 H hP hD hS => ?_)
  refine lv_dup hx hb dX1_init_29 rfl ?_
  refine az_callNN (X := (((([(h0, .inr (1, [.ref qa, .int 0, .int 0])), (qa, .inl (g.2 3, 8, .inr (.inr (.inr (.inr (va_up (va_up (va_up (va_up (fun _ => none) 0 (some (a0 0))) 1 (some (a1 0))) 2 (some (a2 0))) 3 (some (a3 0))))))))] ++ az_cV g a0 az_z) ++ az_cV g a1 az_z) ++ az_cV g a2 az_z) ++ az_cV g a3 az_z)) ⟨hx, hb, hml, hown, hts⟩ hl.1 (kX5_init l g p4) ⟨va_cnB 0 hts gX1_init_X5_init_n17 rfl rfl rfl (hO.2 _ (List.mem_of_getElem? (i := 4) rfl)) (hts _ (List.mem_of_getElem? (i := 7) rfl)) (by decide +kernel) ⟨(Nat.le_of_ble_eq_true rfl), (Nat.le_of_ble_eq_true rfl)⟩, rfl, (hts _ (List.mem_of_getElem? (i := 8) rfl))⟩ hK hO hP hD hS hA (Nat.le_of_ble_eq_true rfl) dX1_init_30 ⟨(Nat.le_of_ble_eq_true rfl), (Nat.le_of_ble_eq_true rfl)⟩ (fun a4 H locs ha4 hP hD hS => ?_)
  rw [← ha4]
  have hP : va_P g.1 az_cl (((((([(h0, .inr (1, [.ref qa, .int 0, .int 0])), (qa, .inl (g.2 3, 8, .inr (.inr (.inr (.inr (va_up (va_up (va_up (va_up (fun _ => none) 0 (some (a0 0))) 1 (some (a1 0))) 2 (some (a2 0))) 3 (some (a3 0))))))))] ++ az_cV g a0 az_z) ++ az_cV g a1 az_z) ++ az_cV g a2 az_z) ++ az_cV g a3 az_z) ++ az_cV g a4 az_z)) _ := hP
  have hD : va_D A (((((([(h0, .inr (1, [.ref qa, .int 0, .int 0])), (qa, .inl (g.2 3, 8, .inr (.inr (.inr (.inr (va_up (va_up (va_up (va_up (fun _ => none) 0 (some (a0 0))) 1 (some (a1 0))) 2 (some (a2 0))) 3 (some (a3 0))))))))] ++ az_cV g a0 az_z) ++ az_cV g a1 az_z) ++ az_cV g a2 az_z) ++ az_cV g a3 az_z) ++ az_cV g a4 az_z)) := hD
  refine va_astq (D := g.1) (f := va_up (va_up (va_up (va_up (fun _ => none) 0 (some (a0 0))) 1 (some (a1 0))) 2 (some (a2 0))) 3 (some (a3 0))) hx hb hK hP hD hS 1 3 82 5 rfl rfl rfl rfl (az_vin (by decide +kernel)) dX1_init_33 (fun H locs hP hD hS => ?_)
  have hP : va_P g.1 az_cl (((((([(h0, .inr (1, [.ref qa, .int 0, .int 0])), (qa, .inl (g.2 3, 8, .inr (.inr (.inr (.inr (va_up (va_up (va_up (va_up (va_up (fun _ => none) 0 (some (a0 0))) 1 (some (a1 0))) 2 (some (a2 0))) 3 (some (a3 0))) 4 (some (a4 0))))))))] ++ az_cV g a0 az_z) ++ az_cV g a1 az_z) ++ az_cV g a2 az_z) ++ az_cV g a3 az_z) ++ az_cV g a4 az_z)) _ := hP
  have hD : va_D A (((((([(h0, .inr (1, [.ref qa, .int 0, .int 0])), (qa, .inl (g.2 3, 8, .inr (.inr (.inr (.inr (va_up (va_up (va_up (va_up (va_up (fun _ => none) 0 (some (a0 0))) 1 (some (a1 0))) 2 (some (a2 0))) 3 (some (a3 0))) 4 (some (a4 0))))))))] ++ az_cV g a0 az_z) ++ az_cV g a1 az_z) ++ az_cV g a2 az_z) ++ az_cV g a3 az_z) ++ az_cV g a4 az_z)) := hD
  refine lv_iinc (v := (5 : Int32)) (lv' := [(1, .int (5 : Int32)), (0, .ref h0)]) hx hb dX1_init_34 hl (k := 0) rfl (by decide) (by decide) rfl (fun ls hl => ?_)
  refine lv_goto (tgt := 15) hx hb dX1_init_37 (by decide) ?_
  refine lv_iload_n hx hb dX1_init_15 rfl (lv_at hl 0 rfl) ?_
  refine lv_bipush (v := (8 : Int32)) hx hb dX1_init_16 (by decide) ?_
  refine lv_icmp_ge (tgt := 40) hx hb dX1_init_18 (by decide) (fun c9 => absurd c9 (by decide)) (fun _ => ?_)
  refine lv_aload_n hx hb dX1_init_21 rfl (lv_at hl 1 rfl) ?_
  refine va_get (D := g.1) (ci := 1) (v := .ref qa) (C := RX1) (T := TX1) (N := 3) hx hb hts inX1_init_RX1 hown hK hP 0 rfl rfl 0 (Nat.le_of_ble_eq_true rfl) (hts _ (List.mem_of_getElem? (i := 5) rfl)) (fun _ h9 => h9) rfl dX1_init_22 ?_
  refine lv_iload_n hx hb dX1_init_25 rfl (lv_at hl 0 rfl) ?_
  refine va_new (D := g.1) (ci := 5) (fs := [.null, .null, .null, .null, .null, .int 0, .int 0, .int 0, .int 0, .int 0, .int 0]) (C := RX5) (T := TX5) (N := 11) hx hb hts inX1_init_RX5 tyX5 tyX5_ok hown (hts _ (List.mem_of_getElem? (i := 4) rfl)) (hts _ (List.mem_of_getElem? (i := 6) rfl)) (hts _ (List.mem_of_getElem? (i := 7) rfl)) hK hP hD hS hA rfl (fun j hj => by rcases (show j = 0 ∨ j = 1 ∨ j = 2 ∨ j = 3 ∨ j = 4 ∨ j = 5 ∨ j = 6 ∨ j = 7 ∨ j = 8 ∨ j = 9 ∨ j = 10 by omega) with rfl | rfl | rfl | rfl | rfl | rfl | rfl | rfl | rfl | rfl | rfl <;> rfl) (Nat.le_of_ble_eq_true rfl) (Nat.le_of_ble_eq_true rfl) dX1_init_26 (fun p5 H hP hD hS => ?_)
  refine lv_dup hx hb dX1_init_29 rfl ?_
  refine az_callNN (X := ((((([(h0, .inr (1, [.ref qa, .int 0, .int 0])), (qa, .inl (g.2 3, 8, .inr (.inr (.inr (.inr (va_up (va_up (va_up (va_up (va_up (fun _ => none) 0 (some (a0 0))) 1 (some (a1 0))) 2 (some (a2 0))) 3 (some (a3 0))) 4 (some (a4 0))))))))] ++ az_cV g a0 az_z) ++ az_cV g a1 az_z) ++ az_cV g a2 az_z) ++ az_cV g a3 az_z) ++ az_cV g a4 az_z)) ⟨hx, hb, hml, hown, hts⟩ hl.1 (kX5_init l g p5) ⟨va_cnB 0 hts gX1_init_X5_init_n17 rfl rfl rfl (hO.2 _ (List.mem_of_getElem? (i := 4) rfl)) (hts _ (List.mem_of_getElem? (i := 7) rfl)) (by decide +kernel) ⟨(Nat.le_of_ble_eq_true rfl), (Nat.le_of_ble_eq_true rfl)⟩, rfl, (hts _ (List.mem_of_getElem? (i := 8) rfl))⟩ hK hO hP hD hS hA (Nat.le_of_ble_eq_true rfl) dX1_init_30 ⟨(Nat.le_of_ble_eq_true rfl), (Nat.le_of_ble_eq_true rfl)⟩ (fun a5 H locs ha5 hP hD hS => ?_)
  rw [← ha5]
  have hP : va_P g.1 az_cl ((((((([(h0, .inr (1, [.ref qa, .int 0, .int 0])), (qa, .inl (g.2 3, 8, .inr (.inr (.inr (.inr (va_up (va_up (va_up (va_up (va_up (fun _ => none) 0 (some (a0 0))) 1 (some (a1 0))) 2 (some (a2 0))) 3 (some (a3 0))) 4 (some (a4 0))))))))] ++ az_cV g a0 az_z) ++ az_cV g a1 az_z) ++ az_cV g a2 az_z) ++ az_cV g a3 az_z) ++ az_cV g a4 az_z) ++ az_cV g a5 az_z)) _ := hP
  have hD : va_D A ((((((([(h0, .inr (1, [.ref qa, .int 0, .int 0])), (qa, .inl (g.2 3, 8, .inr (.inr (.inr (.inr (va_up (va_up (va_up (va_up (va_up (fun _ => none) 0 (some (a0 0))) 1 (some (a1 0))) 2 (some (a2 0))) 3 (some (a3 0))) 4 (some (a4 0))))))))] ++ az_cV g a0 az_z) ++ az_cV g a1 az_z) ++ az_cV g a2 az_z) ++ az_cV g a3 az_z) ++ az_cV g a4 az_z) ++ az_cV g a5 az_z)) := hD
  refine va_astq (D := g.1) (f := va_up (va_up (va_up (va_up (va_up (fun _ => none) 0 (some (a0 0))) 1 (some (a1 0))) 2 (some (a2 0))) 3 (some (a3 0))) 4 (some (a4 0))) hx hb hK hP hD hS 1 3 102 5 rfl rfl rfl rfl (az_vin (by decide +kernel)) dX1_init_33 (fun H locs hP hD hS => ?_)
  have hP : va_P g.1 az_cl ((((((([(h0, .inr (1, [.ref qa, .int 0, .int 0])), (qa, .inl (g.2 3, 8, .inr (.inr (.inr (.inr (va_up (va_up (va_up (va_up (va_up (va_up (fun _ => none) 0 (some (a0 0))) 1 (some (a1 0))) 2 (some (a2 0))) 3 (some (a3 0))) 4 (some (a4 0))) 5 (some (a5 0))))))))] ++ az_cV g a0 az_z) ++ az_cV g a1 az_z) ++ az_cV g a2 az_z) ++ az_cV g a3 az_z) ++ az_cV g a4 az_z) ++ az_cV g a5 az_z)) _ := hP
  have hD : va_D A ((((((([(h0, .inr (1, [.ref qa, .int 0, .int 0])), (qa, .inl (g.2 3, 8, .inr (.inr (.inr (.inr (va_up (va_up (va_up (va_up (va_up (va_up (fun _ => none) 0 (some (a0 0))) 1 (some (a1 0))) 2 (some (a2 0))) 3 (some (a3 0))) 4 (some (a4 0))) 5 (some (a5 0))))))))] ++ az_cV g a0 az_z) ++ az_cV g a1 az_z) ++ az_cV g a2 az_z) ++ az_cV g a3 az_z) ++ az_cV g a4 az_z) ++ az_cV g a5 az_z)) := hD
  refine lv_iinc (v := (6 : Int32)) (lv' := [(1, .int (6 : Int32)), (0, .ref h0)]) hx hb dX1_init_34 hl (k := 0) rfl (by decide) (by decide) rfl (fun ls hl => ?_)
  refine lv_goto (tgt := 15) hx hb dX1_init_37 (by decide) ?_
  refine lv_iload_n hx hb dX1_init_15 rfl (lv_at hl 0 rfl) ?_
  refine lv_bipush (v := (8 : Int32)) hx hb dX1_init_16 (by decide) ?_
  refine lv_icmp_ge (tgt := 40) hx hb dX1_init_18 (by decide) (fun c9 => absurd c9 (by decide)) (fun _ => ?_)
  refine lv_aload_n hx hb dX1_init_21 rfl (lv_at hl 1 rfl) ?_
  refine va_get (D := g.1) (ci := 1) (v := .ref qa) (C := RX1) (T := TX1) (N := 3) hx hb hts inX1_init_RX1 hown hK hP 0 rfl rfl 0 (Nat.le_of_ble_eq_true rfl) (hts _ (List.mem_of_getElem? (i := 5) rfl)) (fun _ h9 => h9) rfl dX1_init_22 ?_
  refine lv_iload_n hx hb dX1_init_25 rfl (lv_at hl 0 rfl) ?_
  refine va_new (D := g.1) (ci := 5) (fs := [.null, .null, .null, .null, .null, .int 0, .int 0, .int 0, .int 0, .int 0, .int 0]) (C := RX5) (T := TX5) (N := 11) hx hb hts inX1_init_RX5 tyX5 tyX5_ok hown (hts _ (List.mem_of_getElem? (i := 4) rfl)) (hts _ (List.mem_of_getElem? (i := 6) rfl)) (hts _ (List.mem_of_getElem? (i := 7) rfl)) hK hP hD hS hA rfl (fun j hj => by rcases (show j = 0 ∨ j = 1 ∨ j = 2 ∨ j = 3 ∨ j = 4 ∨ j = 5 ∨ j = 6 ∨ j = 7 ∨ j = 8 ∨ j = 9 ∨ j = 10 by omega) with rfl | rfl | rfl | rfl | rfl | rfl | rfl | rfl | rfl | rfl | rfl <;> rfl) (Nat.le_of_ble_eq_true rfl) (Nat.le_of_ble_eq_true rfl) dX1_init_26 (fun p6 H hP hD hS => ?_)
  refine lv_dup hx hb dX1_init_29 rfl ?_
  refine az_callNN (X := (((((([(h0, .inr (1, [.ref qa, .int 0, .int 0])), (qa, .inl (g.2 3, 8, .inr (.inr (.inr (.inr (va_up (va_up (va_up (va_up (va_up (va_up (fun _ => none) 0 (some (a0 0))) 1 (some (a1 0))) 2 (some (a2 0))) 3 (some (a3 0))) 4 (some (a4 0))) 5 (some (a5 0))))))))] ++ az_cV g a0 az_z) ++ az_cV g a1 az_z) ++ az_cV g a2 az_z) ++ az_cV g a3 az_z) ++ az_cV g a4 az_z) ++ az_cV g a5 az_z)) ⟨hx, hb, hml, hown, hts⟩ hl.1 (kX5_init l g p6) ⟨va_cnB 0 hts gX1_init_X5_init_n17 rfl rfl rfl (hO.2 _ (List.mem_of_getElem? (i := 4) rfl)) (hts _ (List.mem_of_getElem? (i := 7) rfl)) (by decide +kernel) ⟨(Nat.le_of_ble_eq_true rfl), (Nat.le_of_ble_eq_true rfl)⟩, rfl, (hts _ (List.mem_of_getElem? (i := 8) rfl))⟩ hK hO hP hD hS hA (Nat.le_of_ble_eq_true rfl) dX1_init_30 ⟨(Nat.le_of_ble_eq_true rfl), (Nat.le_of_ble_eq_true rfl)⟩ (fun a6 H locs ha6 hP hD hS => ?_)
  rw [← ha6]
  have hP : va_P g.1 az_cl (((((((([(h0, .inr (1, [.ref qa, .int 0, .int 0])), (qa, .inl (g.2 3, 8, .inr (.inr (.inr (.inr (va_up (va_up (va_up (va_up (va_up (va_up (fun _ => none) 0 (some (a0 0))) 1 (some (a1 0))) 2 (some (a2 0))) 3 (some (a3 0))) 4 (some (a4 0))) 5 (some (a5 0))))))))] ++ az_cV g a0 az_z) ++ az_cV g a1 az_z) ++ az_cV g a2 az_z) ++ az_cV g a3 az_z) ++ az_cV g a4 az_z) ++ az_cV g a5 az_z) ++ az_cV g a6 az_z)) _ := hP
  have hD : va_D A (((((((([(h0, .inr (1, [.ref qa, .int 0, .int 0])), (qa, .inl (g.2 3, 8, .inr (.inr (.inr (.inr (va_up (va_up (va_up (va_up (va_up (va_up (fun _ => none) 0 (some (a0 0))) 1 (some (a1 0))) 2 (some (a2 0))) 3 (some (a3 0))) 4 (some (a4 0))) 5 (some (a5 0))))))))] ++ az_cV g a0 az_z) ++ az_cV g a1 az_z) ++ az_cV g a2 az_z) ++ az_cV g a3 az_z) ++ az_cV g a4 az_z) ++ az_cV g a5 az_z) ++ az_cV g a6 az_z)) := hD
  refine va_astq (D := g.1) (f := va_up (va_up (va_up (va_up (va_up (va_up (fun _ => none) 0 (some (a0 0))) 1 (some (a1 0))) 2 (some (a2 0))) 3 (some (a3 0))) 4 (some (a4 0))) 5 (some (a5 0))) hx hb hK hP hD hS 1 3 122 5 rfl rfl rfl rfl (az_vin (by decide +kernel)) dX1_init_33 (fun H locs hP hD hS => ?_)
  have hP : va_P g.1 az_cl (((((((([(h0, .inr (1, [.ref qa, .int 0, .int 0])), (qa, .inl (g.2 3, 8, .inr (.inr (.inr (.inr (va_up (va_up (va_up (va_up (va_up (va_up (va_up (fun _ => none) 0 (some (a0 0))) 1 (some (a1 0))) 2 (some (a2 0))) 3 (some (a3 0))) 4 (some (a4 0))) 5 (some (a5 0))) 6 (some (a6 0))))))))] ++ az_cV g a0 az_z) ++ az_cV g a1 az_z) ++ az_cV g a2 az_z) ++ az_cV g a3 az_z) ++ az_cV g a4 az_z) ++ az_cV g a5 az_z) ++ az_cV g a6 az_z)) _ := hP
  have hD : va_D A (((((((([(h0, .inr (1, [.ref qa, .int 0, .int 0])), (qa, .inl (g.2 3, 8, .inr (.inr (.inr (.inr (va_up (va_up (va_up (va_up (va_up (va_up (va_up (fun _ => none) 0 (some (a0 0))) 1 (some (a1 0))) 2 (some (a2 0))) 3 (some (a3 0))) 4 (some (a4 0))) 5 (some (a5 0))) 6 (some (a6 0))))))))] ++ az_cV g a0 az_z) ++ az_cV g a1 az_z) ++ az_cV g a2 az_z) ++ az_cV g a3 az_z) ++ az_cV g a4 az_z) ++ az_cV g a5 az_z) ++ az_cV g a6 az_z)) := hD
  refine lv_iinc (v := (7 : Int32)) (lv' := [(1, .int (7 : Int32)), (0, .ref h0)]) hx hb dX1_init_34 hl (k := 0) rfl (by decide) (by decide) rfl (fun ls hl => ?_)
  refine lv_goto (tgt := 15) hx hb dX1_init_37 (by decide) ?_
  refine lv_iload_n hx hb dX1_init_15 rfl (lv_at hl 0 rfl) ?_
  refine lv_bipush (v := (8 : Int32)) hx hb dX1_init_16 (by decide) ?_
  refine lv_icmp_ge (tgt := 40) hx hb dX1_init_18 (by decide) (fun c9 => absurd c9 (by decide)) (fun _ => ?_)
  refine lv_aload_n hx hb dX1_init_21 rfl (lv_at hl 1 rfl) ?_
  refine va_get (D := g.1) (ci := 1) (v := .ref qa) (C := RX1) (T := TX1) (N := 3) hx hb hts inX1_init_RX1 hown hK hP 0 rfl rfl 0 (Nat.le_of_ble_eq_true rfl) (hts _ (List.mem_of_getElem? (i := 5) rfl)) (fun _ h9 => h9) rfl dX1_init_22 ?_
  refine lv_iload_n hx hb dX1_init_25 rfl (lv_at hl 0 rfl) ?_
  refine va_new (D := g.1) (ci := 5) (fs := [.null, .null, .null, .null, .null, .int 0, .int 0, .int 0, .int 0, .int 0, .int 0]) (C := RX5) (T := TX5) (N := 11) hx hb hts inX1_init_RX5 tyX5 tyX5_ok hown (hts _ (List.mem_of_getElem? (i := 4) rfl)) (hts _ (List.mem_of_getElem? (i := 6) rfl)) (hts _ (List.mem_of_getElem? (i := 7) rfl)) hK hP hD hS hA rfl (fun j hj => by rcases (show j = 0 ∨ j = 1 ∨ j = 2 ∨ j = 3 ∨ j = 4 ∨ j = 5 ∨ j = 6 ∨ j = 7 ∨ j = 8 ∨ j = 9 ∨ j = 10 by omega) with rfl | rfl | rfl | rfl | rfl | rfl | rfl | rfl | rfl | rfl | rfl <;> rfl) (Nat.le_of_ble_eq_true rfl) (Nat.le_of_ble_eq_true rfl) dX1_init_26 (fun p7 H hP hD hS => ?_)
  refine lv_dup hx hb dX1_init_29 rfl ?_
  refine az_callNN (X := ((((((([(h0, .inr (1, [.ref qa, .int 0, .int 0])), (qa, .inl (g.2 3, 8, .inr (.inr (.inr (.inr (va_up (va_up (va_up (va_up (va_up (va_up (va_up (fun _ => none) 0 (some (a0 0))) 1 (some (a1 0))) 2 (some (a2 0))) 3 (some (a3 0))) 4 (some (a4 0))) 5 (some (a5 0))) 6 (some (a6 0))))))))] ++ az_cV g a0 az_z) ++ az_cV g a1 az_z) ++ az_cV g a2 az_z) ++ az_cV g a3 az_z) ++ az_cV g a4 az_z) ++ az_cV g a5 az_z) ++ az_cV g a6 az_z)) ⟨hx, hb, hml, hown, hts⟩ hl.1 (kX5_init l g p7) ⟨va_cnB 0 hts gX1_init_X5_init_n17 rfl rfl rfl (hO.2 _ (List.mem_of_getElem? (i := 4) rfl)) (hts _ (List.mem_of_getElem? (i := 7) rfl)) (by decide +kernel) ⟨(Nat.le_of_ble_eq_true rfl), (Nat.le_of_ble_eq_true rfl)⟩, rfl, (hts _ (List.mem_of_getElem? (i := 8) rfl))⟩ hK hO hP hD hS hA (Nat.le_of_ble_eq_true rfl) dX1_init_30 ⟨(Nat.le_of_ble_eq_true rfl), (Nat.le_of_ble_eq_true rfl)⟩ (fun a7 H locs ha7 hP hD hS => ?_)
  rw [← ha7]
  have hP : va_P g.1 az_cl ((((((((([(h0, .inr (1, [.ref qa, .int 0, .int 0])), (qa, .inl (g.2 3, 8, .inr (.inr (.inr (.inr (va_up (va_up (va_up (va_up (va_up (va_up (va_up (fun _ => none) 0 (some (a0 0))) 1 (some (a1 0))) 2 (some (a2 0))) 3 (some (a3 0))) 4 (some (a4 0))) 5 (some (a5 0))) 6 (some (a6 0))))))))] ++ az_cV g a0 az_z) ++ az_cV g a1 az_z) ++ az_cV g a2 az_z) ++ az_cV g a3 az_z) ++ az_cV g a4 az_z) ++ az_cV g a5 az_z) ++ az_cV g a6 az_z) ++ az_cV g a7 az_z)) _ := hP
  have hD : va_D A ((((((((([(h0, .inr (1, [.ref qa, .int 0, .int 0])), (qa, .inl (g.2 3, 8, .inr (.inr (.inr (.inr (va_up (va_up (va_up (va_up (va_up (va_up (va_up (fun _ => none) 0 (some (a0 0))) 1 (some (a1 0))) 2 (some (a2 0))) 3 (some (a3 0))) 4 (some (a4 0))) 5 (some (a5 0))) 6 (some (a6 0))))))))] ++ az_cV g a0 az_z) ++ az_cV g a1 az_z) ++ az_cV g a2 az_z) ++ az_cV g a3 az_z) ++ az_cV g a4 az_z) ++ az_cV g a5 az_z) ++ az_cV g a6 az_z) ++ az_cV g a7 az_z)) := hD
  refine va_astq (D := g.1) (f := va_up (va_up (va_up (va_up (va_up (va_up (va_up (fun _ => none) 0 (some (a0 0))) 1 (some (a1 0))) 2 (some (a2 0))) 3 (some (a3 0))) 4 (some (a4 0))) 5 (some (a5 0))) 6 (some (a6 0))) hx hb hK hP hD hS 1 3 142 5 rfl rfl rfl rfl (az_vin (by decide +kernel)) dX1_init_33 (fun H locs hP hD hS => ?_)
  have hP : va_P g.1 az_cl ((((((((([(h0, .inr (1, [.ref qa, .int 0, .int 0])), (qa, .inl (g.2 3, 8, .inr (.inr (.inr (.inr (va_up (va_up (va_up (va_up (va_up (va_up (va_up (va_up (fun _ => none) 0 (some (a0 0))) 1 (some (a1 0))) 2 (some (a2 0))) 3 (some (a3 0))) 4 (some (a4 0))) 5 (some (a5 0))) 6 (some (a6 0))) 7 (some (a7 0))))))))] ++ az_cV g a0 az_z) ++ az_cV g a1 az_z) ++ az_cV g a2 az_z) ++ az_cV g a3 az_z) ++ az_cV g a4 az_z) ++ az_cV g a5 az_z) ++ az_cV g a6 az_z) ++ az_cV g a7 az_z)) _ := hP
  have hD : va_D A ((((((((([(h0, .inr (1, [.ref qa, .int 0, .int 0])), (qa, .inl (g.2 3, 8, .inr (.inr (.inr (.inr (va_up (va_up (va_up (va_up (va_up (va_up (va_up (va_up (fun _ => none) 0 (some (a0 0))) 1 (some (a1 0))) 2 (some (a2 0))) 3 (some (a3 0))) 4 (some (a4 0))) 5 (some (a5 0))) 6 (some (a6 0))) 7 (some (a7 0))))))))] ++ az_cV g a0 az_z) ++ az_cV g a1 az_z) ++ az_cV g a2 az_z) ++ az_cV g a3 az_z) ++ az_cV g a4 az_z) ++ az_cV g a5 az_z) ++ az_cV g a6 az_z) ++ az_cV g a7 az_z)) := hD
  refine lv_iinc (v := (8 : Int32)) (lv' := [(1, .int (8 : Int32)), (0, .ref h0)]) hx hb dX1_init_34 hl (k := 0) rfl (by decide) (by decide) rfl (fun ls hl => ?_)
  refine lv_goto (tgt := 15) hx hb dX1_init_37 (by decide) ?_
  refine lv_iload_n hx hb dX1_init_15 rfl (lv_at hl 0 rfl) ?_
  refine lv_bipush (v := (8 : Int32)) hx hb dX1_init_16 (by decide) ?_
  refine lv_icmp_ge (tgt := 40) hx hb dX1_init_18 (by decide) (fun _ => ?_) (fun c9 => absurd (by decide) c9)
  have hP := az_P_refs (f' := fun i => some ((((fun i => match i with | 1 => h0 | _ => qa), (fun i => match i with | 0 => a0 | 1 => a1 | 2 => a2 | 3 => a3 | 4 => a4 | 5 => a5 | 6 => a6 | _ => a7)) : (Nat → Nat) × (Nat → Nat → Nat)).2 i 0)) hP (i := 1) rfl (fun j hj => by rcases az_lt8 hj with rfl | rfl | rfl | rfl | rfl | rfl | rfl | rfl <;> rfl)
  have hP : va_P g.1 az_cl ((((((((([(h0, .inr (1, [.ref qa, .int 0, .int 0])), (qa, .inl (g.2 3, 8, .inr (.inr (.inr (.inr (fun i => some ((((fun i => match i with | 1 => h0 | _ => qa), (fun i => match i with | 0 => a0 | 1 => a1 | 2 => a2 | 3 => a3 | 4 => a4 | 5 => a5 | 6 => a6 | _ => a7)) : (Nat → Nat) × (Nat → Nat → Nat)).2 i 0)))))))] ++ az_cV g a0 az_z) ++ az_cV g a1 az_z) ++ az_cV g a2 az_z) ++ az_cV g a3 az_z) ++ az_cV g a4 az_z) ++ az_cV g a5 az_z) ++ az_cV g a6 az_z) ++ az_cV g a7 az_z)) _ := hP
  have hD : va_D A ((((((((([(h0, .inr (1, [.ref qa, .int 0, .int 0])), (qa, .inl (g.2 3, 8, .inr (.inr (.inr (.inr (fun i => some ((((fun i => match i with | 1 => h0 | _ => qa), (fun i => match i with | 0 => a0 | 1 => a1 | 2 => a2 | 3 => a3 | 4 => a4 | 5 => a5 | 6 => a6 | _ => a7)) : (Nat → Nat) × (Nat → Nat → Nat)).2 i 0)))))))] ++ az_cV g a0 az_z) ++ az_cV g a1 az_z) ++ az_cV g a2 az_z) ++ az_cV g a3 az_z) ++ az_cV g a4 az_z) ++ az_cV g a5 az_z) ++ az_cV g a6 az_z) ++ az_cV g a7 az_z)) := az_D_map hD rfl
  simp only [List.append_assoc] at hP hD
  have hP : va_P g.1 az_cl ((fun (u : (Nat → Nat) × (Nat → Nat → Nat)) => az_cH g u.1 u.2 (fun _ => az_z) (fun _ => 0)) (((fun i => match i with | 1 => h0 | _ => qa), (fun i => match i with | 0 => a0 | 1 => a1 | 2 => a2 | 3 => a3 | 4 => a4 | 5 => a5 | 6 => a6 | _ => a7)))) _ := hP
  have hD : va_D A ((fun (u : (Nat → Nat) × (Nat → Nat → Nat)) => az_cH g u.1 u.2 (fun _ => az_z) (fun _ => 0)) (((fun i => match i with | 1 => h0 | _ => qa), (fun i => match i with | 0 => a0 | 1 => a1 | 2 => a2 | 3 => a3 | 4 => a4 | 5 => a5 | 6 => a6 | _ => a7)))) := hD
  exact az_retN (((fun i => match i with | 1 => h0 | _ => qa), (fun i => match i with | 0 => a0 | 1 => a1 | 2 => a2 | 3 => a3 | 4 => a4 | 5 => a5 | 6 => a6 | _ => a7))) rfl hx hb hr hlocks hK hP hD hS dX1_init_40 (Nat.le_of_ble_eq_true rfl) (Nat.le_of_ble_eq_true rfl)

theorem inX6_init_RX6 : ∀ w ∈ wsX60, w ∈ wsX6_init := az_inr [124, 125, 126] (by decide +kernel)
theorem inX6_init_RX5 : ∀ w ∈ wsX50, w ∈ wsX6_init := az_inr [113, 114, 115, 116, 117, 118, 119, 120, 121, 122, 123] (by decide +kernel)
theorem inX6_init_RX1 : ∀ w ∈ wsX10, w ∈ wsX6_init := az_inr [127, 128, 129] (by decide +kernel)
set_option maxHeartbeats 8000000 in
set_option maxRecDepth 100000 in
theorem kX6_init (l : Launch) (g : az_G)  (h0 : Nat) (o : (Nat → Int32) × (Nat → Int32) × (Nat → Int32) × (Nat → Int32) × (Nat → Int32) × (Nat → Int32) × (Nat → Int32) × (Nat → Int32) × (Nat → Int32) × (Nat → Int32) × (Nat → Int32) × (Nat → Int32) × (Nat → Int32) × (Nat → Int32) × (Nat → Int32) × (Nat → Int32) × (Nat → Int32)) (hF : FX5_begin az_z 4 4 5 = some o) : az_N (α := (Nat → Nat) × (Nat → Nat) × (Nat → Nat) × (Nat → Nat → Nat)) l yX6_init wsX6_init ({ frames := 4, cells := 202, slots := 11561, locals := 90 } : Room) g h0 (.inr (6, [.null, .null, .null])) (fun (u : (Nat → Nat) × (Nat → Nat) × (Nat → Nat) × (Nat → Nat → Nat)) => u.1 0 = h0) (fun (u : (Nat → Nat) × (Nat → Nat) × (Nat → Nat) × (Nat → Nat → Nat)) => az_w6 g u.1 u.2.1 u.2.2.1 (va_up (va_up (va_up (va_up (va_up (va_up (va_up (va_up (va_up (va_up (va_up (va_up (va_up (va_up (va_up (va_up (va_up az_z 0 o.1) 1 o.2.1) 2 o.2.2.1) 3 o.2.2.2.1) 4 o.2.2.2.2.1) 5 o.2.2.2.2.2.1) 6 o.2.2.2.2.2.2.1) 7 o.2.2.2.2.2.2.2.1) 8 o.2.2.2.2.2.2.2.2.1) 9 o.2.2.2.2.2.2.2.2.2.1) 10 o.2.2.2.2.2.2.2.2.2.2.1) 11 o.2.2.2.2.2.2.2.2.2.2.2.1) 12 o.2.2.2.2.2.2.2.2.2.2.2.2.1) 13 o.2.2.2.2.2.2.2.2.2.2.2.2.2.1) 14 o.2.2.2.2.2.2.2.2.2.2.2.2.2.2.1) 15 o.2.2.2.2.2.2.2.2.2.2.2.2.2.2.2.1) 16 o.2.2.2.2.2.2.2.2.2.2.2.2.2.2.2.2) (az_cV g u.2.2.1 az_z ++ az_cH g u.1 u.2.2.2 (fun _ => az_z) (fun _ => 0))) 202 11561 := by
  refine az_bodyN (y := yX6_init) (cc := cX6_init) (maxL := 1) (mc := 202) (ms := 11561) (Qc := fun A => az_QN g (fun (u : (Nat → Nat) × (Nat → Nat) × (Nat → Nat) × (Nat → Nat → Nat)) => u.1 0 = h0) (fun (u : (Nat → Nat) × (Nat → Nat) × (Nat → Nat) × (Nat → Nat → Nat)) => az_w6 g u.1 u.2.1 u.2.2.1 (va_up (va_up (va_up (va_up (va_up (va_up (va_up (va_up (va_up (va_up (va_up (va_up (va_up (va_up (va_up (va_up (va_up az_z 0 o.1) 1 o.2.1) 2 o.2.2.1) 3 o.2.2.2.1) 4 o.2.2.2.2.1) 5 o.2.2.2.2.2.1) 6 o.2.2.2.2.2.2.1) 7 o.2.2.2.2.2.2.2.1) 8 o.2.2.2.2.2.2.2.2.1) 9 o.2.2.2.2.2.2.2.2.2.1) 10 o.2.2.2.2.2.2.2.2.2.2.1) 11 o.2.2.2.2.2.2.2.2.2.2.2.1) 12 o.2.2.2.2.2.2.2.2.2.2.2.2.1) 13 o.2.2.2.2.2.2.2.2.2.2.2.2.2.1) 14 o.2.2.2.2.2.2.2.2.2.2.2.2.2.2.1) 15 o.2.2.2.2.2.2.2.2.2.2.2.2.2.2.2.1) 16 o.2.2.2.2.2.2.2.2.2.2.2.2.2.2.2.2) (az_cV g u.2.2.1 az_z ++ az_cH g u.1 u.2.2.2 (fun _ => az_z) (fun _ => 0))) A) (by decide +kernel) rfl (Nat.le_of_ble_eq_true rfl) rfl ?_
  intro p e s m args below meth c A hx hb hr hts hown hml hlocks hin hO hA hK hP hD hS ls hl
  have hl : lv_has ls 1 [(0, .ref h0)] := hl
  refine lv_aload_n hx hb dX6_init_0 rfl (lv_at hl 0 rfl) ?_
  refine W.objInit hx hb hown (hts _ (List.mem_of_getElem? (i := 1) rfl)) (hts _ (List.mem_of_getElem? (i := 2) rfl)) (hts _ (List.mem_of_getElem? (i := 3) rfl)) rfl (by rw [hml]; exact hl.1) rfl dX6_init_1 (Nat.le_of_ble_eq_true rfl) (Nat.le_of_ble_eq_true rfl) ?_
  refine W.eq (g2 := F0 m 4 ls []) rfl ?_
  refine lv_aload_n hx hb dX6_init_4 rfl (lv_at hl 0 rfl) ?_
  refine va_new (D := g.1) (ci := 5) (fs := [.null, .null, .null, .null, .null, .int 0, .int 0, .int 0, .int 0, .int 0, .int 0]) (C := RX5) (T := TX5) (N := 11) hx hb hts inX6_init_RX5 tyX5 tyX5_ok hown (hts _ (List.mem_of_getElem? (i := 4) rfl)) (hts _ (List.mem_of_getElem? (i := 5) rfl)) (hts _ (List.mem_of_getElem? (i := 6) rfl)) hK hP hD hS hA rfl (fun j hj => by rcases (show j = 0 ∨ j = 1 ∨ j = 2 ∨ j = 3 ∨ j = 4 ∨ j = 5 ∨ j = 6 ∨ j = 7 ∨ j = 8 ∨ j = 9 ∨ j = 10 by omega) with rfl | rfl | rfl | rfl | rfl | rfl | rfl | rfl | rfl | rfl | rfl <;> rfl) (Nat.le_of_ble_eq_true rfl) (Nat.le_of_ble_eq_true rfl) dX6_init_5 (fun p0 H hP hD hS => ?_)
  refine lv_dup hx hb dX6_init_8 rfl ?_
  refine az_callNN (X := [(h0, .inr (6, [.null, .null, .null]))]) ⟨hx, hb, hml, hown, hts⟩ hl.1 (kX5_init l g p0) ⟨va_cnB 0 hts gX6_init_X5_init_n11 rfl rfl rfl (hO.2 _ (List.mem_of_getElem? (i := 5) rfl)) (hts _ (List.mem_of_getElem? (i := 6) rfl)) (by decide +kernel) ⟨(Nat.le_of_ble_eq_true rfl), (Nat.le_of_ble_eq_true rfl)⟩, rfl, (hts _ (List.mem_of_getElem? (i := 13) rfl))⟩ hK hO hP hD hS hA (Nat.le_of_ble_eq_true rfl) dX6_init_9 ⟨(Nat.le_of_ble_eq_true rfl), (Nat.le_of_ble_eq_true rfl)⟩ (fun a0 H locs ha0 hP hD hS => ?_)
  rw [← ha0]
  refine va_putF (D := g.1) (ci := 6) (v := .ref (a0 0)) (ty := .object "AppendedVolume$Volume") (C := RX6) (T := TX6) (N := 3) hx hb hts inX6_init_RX6 tyX6 tyX6_ok nmX6 hown hK hP hD hS 0 rfl rfl 0 (Nat.le_of_ble_eq_true rfl) (hts _ (List.mem_of_getElem? (i := 7) rfl)) (fun _ h9 => h9) rfl hin rfl (by decide +kernel) rfl rfl (Nat.le_of_ble_eq_true rfl) dX6_init_12 (fun H locs hP hD hS => ?_)
  have hP : va_P g.1 az_cl (([(h0, .inr (6, [.ref (a0 0), .null, .null]))] ++ az_cV g a0 az_z)) _ := hP
  have hD : va_D A (([(h0, .inr (6, [.ref (a0 0), .null, .null]))] ++ az_cV g a0 az_z)) := hD
  refine lv_aload_n hx hb dX6_init_15 rfl (lv_at hl 0 rfl) ?_
  refine va_new (D := g.1) (ci := 5) (fs := [.null, .null, .null, .null, .null, .int 0, .int 0, .int 0, .int 0, .int 0, .int 0]) (C := RX5) (T := TX5) (N := 11) hx hb hts inX6_init_RX5 tyX5 tyX5_ok hown (hts _ (List.mem_of_getElem? (i := 4) rfl)) (hts _ (List.mem_of_getElem? (i := 5) rfl)) (hts _ (List.mem_of_getElem? (i := 6) rfl)) hK hP hD hS hA rfl (fun j hj => by rcases (show j = 0 ∨ j = 1 ∨ j = 2 ∨ j = 3 ∨ j = 4 ∨ j = 5 ∨ j = 6 ∨ j = 7 ∨ j = 8 ∨ j = 9 ∨ j = 10 by omega) with rfl | rfl | rfl | rfl | rfl | rfl | rfl | rfl | rfl | rfl | rfl <;> rfl) (Nat.le_of_ble_eq_true rfl) (Nat.le_of_ble_eq_true rfl) dX6_init_16 (fun p1 H hP hD hS => ?_)
  refine lv_dup hx hb dX6_init_19 rfl ?_
  refine az_callNN (X := ([(h0, .inr (6, [.ref (a0 0), .null, .null]))] ++ az_cV g a0 az_z)) ⟨hx, hb, hml, hown, hts⟩ hl.1 (kX5_init l g p1) ⟨va_cnB 0 hts gX6_init_X5_init_n11 rfl rfl rfl (hO.2 _ (List.mem_of_getElem? (i := 5) rfl)) (hts _ (List.mem_of_getElem? (i := 6) rfl)) (by decide +kernel) ⟨(Nat.le_of_ble_eq_true rfl), (Nat.le_of_ble_eq_true rfl)⟩, rfl, (hts _ (List.mem_of_getElem? (i := 13) rfl))⟩ hK hO hP hD hS hA (Nat.le_of_ble_eq_true rfl) dX6_init_20 ⟨(Nat.le_of_ble_eq_true rfl), (Nat.le_of_ble_eq_true rfl)⟩ (fun a1 H locs ha1 hP hD hS => ?_)
  rw [← ha1]
  refine va_putF (D := g.1) (ci := 6) (v := .ref (a1 0)) (ty := .object "AppendedVolume$Volume") (C := RX6) (T := TX6) (N := 3) hx hb hts inX6_init_RX6 tyX6 tyX6_ok nmX6 hown hK hP hD hS 0 rfl rfl 1 (Nat.le_of_ble_eq_true rfl) (hts _ (List.mem_of_getElem? (i := 8) rfl)) (fun _ h9 => h9) rfl hin rfl (by decide +kernel) rfl rfl (Nat.le_of_ble_eq_true rfl) dX6_init_23 (fun H locs hP hD hS => ?_)
  have hP : va_P g.1 az_cl ((([(h0, .inr (6, [.ref (a0 0), .ref (a1 0), .null]))] ++ az_cV g a0 az_z) ++ az_cV g a1 az_z)) _ := hP
  have hD : va_D A ((([(h0, .inr (6, [.ref (a0 0), .ref (a1 0), .null]))] ++ az_cV g a0 az_z) ++ az_cV g a1 az_z)) := hD
  refine lv_aload_n hx hb dX6_init_26 rfl (lv_at hl 0 rfl) ?_
  refine va_new (D := g.1) (ci := 1) (fs := [.null, .int 0, .int 0]) (C := RX1) (T := TX1) (N := 3) hx hb hts inX6_init_RX1 tyX1 tyX1_ok hown (hts _ (List.mem_of_getElem? (i := 9) rfl)) (hts _ (List.mem_of_getElem? (i := 10) rfl)) (hts _ (List.mem_of_getElem? (i := 11) rfl)) hK hP hD hS hA rfl (fun j hj => by rcases (show j = 0 ∨ j = 1 ∨ j = 2 by omega) with rfl | rfl | rfl <;> rfl) (Nat.le_of_ble_eq_true rfl) (Nat.le_of_ble_eq_true rfl) dX6_init_27 (fun p2 H hP hD hS => ?_)
  refine lv_dup hx hb dX6_init_30 rfl ?_
  refine az_callN (X := (([(h0, .inr (6, [.ref (a0 0), .ref (a1 0), .null]))] ++ az_cV g a0 az_z) ++ az_cV g a1 az_z)) ⟨hx, hb, hml, hown, hts⟩ hl.1 (kX1_init l g p2) (cwI 0 hts gX6_init_X1_init rfl rfl rfl (hts _ (List.mem_of_getElem? (i := 11) rfl)) (hts _ (List.mem_of_getElem? (i := 61) rfl)) (hts _ (List.mem_of_getElem? (i := 62) rfl)) rfl (by decide +kernel) ⟨(Nat.le_of_ble_eq_true rfl), (Nat.le_of_ble_eq_true rfl)⟩) hK hO hP hD hS hA (Nat.le_of_ble_eq_true rfl) dX6_init_31 ⟨(Nat.le_of_ble_eq_true rfl), (Nat.le_of_ble_eq_true rfl)⟩ (fun a2 H locs ha2 hP hD hS => ?_)
  rw [← ha2]
  refine va_putF (D := g.1) (ci := 6) (v := .ref (a2.1 1)) (ty := .object "AppendedVolume$History") (C := RX6) (T := TX6) (N := 3) hx hb hts inX6_init_RX6 tyX6 tyX6_ok nmX6 hown hK hP hD hS 0 rfl rfl 2 (Nat.le_of_ble_eq_true rfl) (hts _ (List.mem_of_getElem? (i := 12) rfl)) (fun _ h9 => h9) rfl hin rfl (by decide +kernel) rfl rfl (Nat.le_of_ble_eq_true rfl) dX6_init_34 (fun H locs hP hD hS => ?_)
  have hP : va_P g.1 az_cl (((([(h0, .inr (6, [.ref (a0 0), .ref (a1 0), .ref (a2.1 1)]))] ++ az_cV g a0 az_z) ++ az_cV g a1 az_z) ++ az_cH g a2.1 a2.2 (fun _ => az_z) (fun _ => 0))) _ := hP
  have hD : va_D A (((([(h0, .inr (6, [.ref (a0 0), .ref (a1 0), .ref (a2.1 1)]))] ++ az_cV g a0 az_z) ++ az_cV g a1 az_z) ++ az_cH g a2.1 a2.2 (fun _ => az_z) (fun _ => 0))) := hD
  simp only [List.append_assoc] at hP hD
  obtain ⟨AX, eAX⟩ : ∃ z : Nat → Nat, z = (fun i => match i with | 0 => h0 | _ => a2.1 i) := ⟨_, rfl⟩
  have hP : va_P g.1 az_cl (az_w6 g AX a0 a1 az_z (az_cV g a1 az_z ++ az_cH g AX a2.2 (fun _ => az_z) (fun _ => 0))) H := by rw [eAX]; exact hP
  have hD : va_D A (az_w6 g AX a0 a1 az_z (az_cV g a1 az_z ++ az_cH g AX a2.2 (fun _ => az_z) (fun _ => 0))) := by rw [eAX]; exact hD
  have hAX : AX 0 = h0 := by subst eAX; rfl
  rw [← hAX] at hl
  refine lv_aload_n hx hb dX6_init_37 rfl (lv_at hl 0 rfl) ?_
  refine va_get (D := g.1) (ci := 6) (v := .ref (a0 0)) (C := RX6) (T := TX6) (N := 3) hx hb hts inX6_init_RX6 hown hK hP 0 rfl rfl 0 (Nat.le_of_ble_eq_true rfl) (hts _ (List.mem_of_getElem? (i := 7) rfl)) (fun _ h9 => h9) rfl dX6_init_38 ?_
  refine lv_iconst (v := (4 : Int32)) hx hb dX6_init_41 (by decide) ?_
  refine lv_iconst (v := (4 : Int32)) hx hb dX6_init_42 (by decide) ?_
  refine lv_iconst (v := (5 : Int32)) hx hb dX6_init_43 (by decide) ?_
  refine az_callPv (w2 := az_w6 g AX a0 a1 (va_up (va_up (va_up (va_up (va_up (va_up (va_up (va_up (va_up (va_up (va_up (va_up (va_up (va_up (va_up (va_up (va_up az_z 0 o.1) 1 o.2.1) 2 o.2.2.1) 3 o.2.2.2.1) 4 o.2.2.2.2.1) 5 o.2.2.2.2.2.1) 6 o.2.2.2.2.2.2.1) 7 o.2.2.2.2.2.2.2.1) 8 o.2.2.2.2.2.2.2.2.1) 9 o.2.2.2.2.2.2.2.2.2.1) 10 o.2.2.2.2.2.2.2.2.2.2.1) 11 o.2.2.2.2.2.2.2.2.2.2.2.1) 12 o.2.2.2.2.2.2.2.2.2.2.2.2.1) 13 o.2.2.2.2.2.2.2.2.2.2.2.2.2.1) 14 o.2.2.2.2.2.2.2.2.2.2.2.2.2.2.1) 15 o.2.2.2.2.2.2.2.2.2.2.2.2.2.2.2.1) 16 o.2.2.2.2.2.2.2.2.2.2.2.2.2.2.2.2) (az_cV g a1 az_z ++ az_cH g AX a2.2 (fun _ => az_z) (fun _ => 0))) (As := [.int (4 : Int32), .int (4 : Int32), .int (5 : Int32)]) (rest := []) ⟨hx, hb, hml, hown, hts⟩ hl.1 (kX5_begin l g a0 az_z 4 4 5 o hF) (cwV 3 hts gX6_init_X5_begin rfl rfl rfl (by decide +kernel) ⟨(Nat.le_of_ble_eq_true rfl), (Nat.le_of_ble_eq_true rfl)⟩) rfl hK hP hD hS hA (az_pm [az_x AX a0 a1] (az_cV g a0 az_z) (az_cV g a1 az_z ++ az_cH g AX a2.2 (fun _ => az_z) (fun _ => 0))) (az_pm [az_x AX a0 a1] (az_cV g a0 (va_up (va_up (va_up (va_up (va_up (va_up (va_up (va_up (va_up (va_up (va_up (va_up (va_up (va_up (va_up (va_up (va_up az_z 0 o.1) 1 o.2.1) 2 o.2.2.1) 3 o.2.2.2.1) 4 o.2.2.2.2.1) 5 o.2.2.2.2.2.1) 6 o.2.2.2.2.2.2.1) 7 o.2.2.2.2.2.2.2.1) 8 o.2.2.2.2.2.2.2.2.1) 9 o.2.2.2.2.2.2.2.2.2.1) 10 o.2.2.2.2.2.2.2.2.2.2.1) 11 o.2.2.2.2.2.2.2.2.2.2.2.1) 12 o.2.2.2.2.2.2.2.2.2.2.2.2.1) 13 o.2.2.2.2.2.2.2.2.2.2.2.2.2.1) 14 o.2.2.2.2.2.2.2.2.2.2.2.2.2.2.1) 15 o.2.2.2.2.2.2.2.2.2.2.2.2.2.2.2.1) 16 o.2.2.2.2.2.2.2.2.2.2.2.2.2.2.2.2)) (az_cV g a1 az_z ++ az_cH g AX a2.2 (fun _ => az_z) (fun _ => 0))).symm 0 rfl rfl rfl (Nat.le_of_ble_eq_true rfl) dX6_init_44 ⟨(Nat.le_of_ble_eq_true rfl), (Nat.le_of_ble_eq_true rfl)⟩ rfl (fun H locs hP hD hS => ?_)
  have hP : va_P g.1 az_cl ((fun (u : (Nat → Nat) × (Nat → Nat) × (Nat → Nat) × (Nat → Nat → Nat)) => az_w6 g u.1 u.2.1 u.2.2.1 (va_up (va_up (va_up (va_up (va_up (va_up (va_up (va_up (va_up (va_up (va_up (va_up (va_up (va_up (va_up (va_up (va_up az_z 0 o.1) 1 o.2.1) 2 o.2.2.1) 3 o.2.2.2.1) 4 o.2.2.2.2.1) 5 o.2.2.2.2.2.1) 6 o.2.2.2.2.2.2.1) 7 o.2.2.2.2.2.2.2.1) 8 o.2.2.2.2.2.2.2.2.1) 9 o.2.2.2.2.2.2.2.2.2.1) 10 o.2.2.2.2.2.2.2.2.2.2.1) 11 o.2.2.2.2.2.2.2.2.2.2.2.1) 12 o.2.2.2.2.2.2.2.2.2.2.2.2.1) 13 o.2.2.2.2.2.2.2.2.2.2.2.2.2.1) 14 o.2.2.2.2.2.2.2.2.2.2.2.2.2.2.1) 15 o.2.2.2.2.2.2.2.2.2.2.2.2.2.2.2.1) 16 o.2.2.2.2.2.2.2.2.2.2.2.2.2.2.2.2) (az_cV g u.2.2.1 az_z ++ az_cH g u.1 u.2.2.2 (fun _ => az_z) (fun _ => 0))) ((AX, a0, a1, a2.2))) _ := hP
  have hD : va_D A ((fun (u : (Nat → Nat) × (Nat → Nat) × (Nat → Nat) × (Nat → Nat → Nat)) => az_w6 g u.1 u.2.1 u.2.2.1 (va_up (va_up (va_up (va_up (va_up (va_up (va_up (va_up (va_up (va_up (va_up (va_up (va_up (va_up (va_up (va_up (va_up az_z 0 o.1) 1 o.2.1) 2 o.2.2.1) 3 o.2.2.2.1) 4 o.2.2.2.2.1) 5 o.2.2.2.2.2.1) 6 o.2.2.2.2.2.2.1) 7 o.2.2.2.2.2.2.2.1) 8 o.2.2.2.2.2.2.2.2.1) 9 o.2.2.2.2.2.2.2.2.2.1) 10 o.2.2.2.2.2.2.2.2.2.2.1) 11 o.2.2.2.2.2.2.2.2.2.2.2.1) 12 o.2.2.2.2.2.2.2.2.2.2.2.2.1) 13 o.2.2.2.2.2.2.2.2.2.2.2.2.2.1) 14 o.2.2.2.2.2.2.2.2.2.2.2.2.2.2.1) 15 o.2.2.2.2.2.2.2.2.2.2.2.2.2.2.2.1) 16 o.2.2.2.2.2.2.2.2.2.2.2.2.2.2.2.2) (az_cV g u.2.2.1 az_z ++ az_cH g u.1 u.2.2.2 (fun _ => az_z) (fun _ => 0))) ((AX, a0, a1, a2.2))) := hD
  exact az_retN ((AX, a0, a1, a2.2)) hAX hx hb hr hlocks hK hP hD hS dX6_init_47 (Nat.le_of_ble_eq_true rfl) (Nat.le_of_ble_eq_true rfl)

theorem inX7_init_RX7 : ∀ w ∈ wsX70, w ∈ wsX7_init := az_inr [13, 14, 15, 16, 17] (by decide +kernel)
set_option maxHeartbeats 8000000 in
set_option maxRecDepth 100000 in
theorem kX7_init (l : Launch) (g : az_G)  (h0 : Nat) (o : (Nat → Int32)) (hF : FX7_begins az_z 4 4 5 = some o) : az_N (α := Nat → Nat) l yX7_init wsX7_init ({ frames := 1, cells := 3, slots := 10360, locals := 24 } : Room) g h0 (.inr (7, [.null, .null, .int 0, .int 0, .null])) (fun (ad : Nat → Nat) => ad 0 = h0) (fun (ad : Nat → Nat) => az_cM g ad (va_up az_z 0 o)) 3 10360 := by
  refine az_bodyN (y := yX7_init) (cc := cX7_init) (maxL := 1) (mc := 3) (ms := 10360) (Qc := fun A => az_QN g (fun (ad : Nat → Nat) => ad 0 = h0) (fun (ad : Nat → Nat) => az_cM g ad (va_up az_z 0 o)) A) (by decide +kernel) rfl (Nat.le_of_ble_eq_true rfl) rfl ?_
  intro p e s m args below meth c A hx hb hr hts hown hml hlocks hin hO hA hK hP hD hS ls hl
  have hl : lv_has ls 1 [(0, .ref h0)] := hl
  refine lv_aload_n hx hb dX7_init_0 rfl (lv_at hl 0 rfl) ?_
  refine W.objInit hx hb hown (hts _ (List.mem_of_getElem? (i := 1) rfl)) (hts _ (List.mem_of_getElem? (i := 2) rfl)) (hts _ (List.mem_of_getElem? (i := 3) rfl)) rfl (by rw [hml]; exact hl.1) rfl dX7_init_1 (Nat.le_of_ble_eq_true rfl) (Nat.le_of_ble_eq_true rfl) ?_
  refine W.eq (g2 := F0 m 4 ls []) rfl ?_
  refine lv_aload_n hx hb dX7_init_4 rfl (lv_at hl 0 rfl) ?_
  refine lv_sipush (v := (1036 : Int32)) hx hb dX7_init_5 (by decide) ?_
  refine va_newa (D := g.1) (atype := .int) (a0 := (1036, .inl (fun _ => 0))) (N' := 1036) hx hb (hts _ (List.mem_of_getElem? (i := 4) rfl)) rfl hK hP hD hS hA (fun _ => rfl) (by decide) (by decide) (by decide) (Nat.le_of_ble_eq_true rfl) (Nat.le_of_ble_eq_true rfl) dX7_init_8 (fun q1 cAq1 H hK9 hP hD hS => ?_)
  obtain rfl := az_sameI hK hK9
  refine va_putF (D := g.1) (ci := 7) (v := .ref q1) (ty := .array .int) (C := RX7) (T := TX7) (N := 5) hx hb hts inX7_init_RX7 tyX7 tyX7_ok nmX7 hown hK hP hD hS 0 rfl rfl 0 (Nat.le_of_ble_eq_true rfl) (hts _ (List.mem_of_getElem? (i := 5) rfl)) (fun _ h9 => h9) rfl hin rfl (by decide +kernel) rfl rfl (Nat.le_of_ble_eq_true rfl) dX7_init_10 (fun H locs hP hD hS => ?_)
  have hP : va_P g.1 az_cl ([(h0, .inr (7, [.ref q1, .null, .int 0, .int 0, .null])), (q1, .inl (g.2 0, 1036, .inl (fun _ => 0)))]) _ := hP
  have hD : va_D A ([(h0, .inr (7, [.ref q1, .null, .int 0, .int 0, .null])), (q1, .inl (g.2 0, 1036, .inl (fun _ => 0)))]) := hD
  refine lv_aload_n hx hb dX7_init_13 rfl (lv_at hl 0 rfl) ?_
  refine lv_sipush (v := (8288 : Int32)) hx hb dX7_init_14 (by decide) ?_
  refine va_newa (D := g.1) (atype := .int) (a0 := (8288, .inl (fun _ => 0))) (N' := 8288) hx hb (hts _ (List.mem_of_getElem? (i := 4) rfl)) rfl hK hP hD hS hA (fun _ => rfl) (by decide) (by decide) (by decide) (Nat.le_of_ble_eq_true rfl) (Nat.le_of_ble_eq_true rfl) dX7_init_17 (fun q2 cAq2 H hK9 hP hD hS => ?_)
  obtain rfl := az_sameI hK hK9
  refine va_putF (D := g.1) (ci := 7) (v := .ref q2) (ty := .array .int) (C := RX7) (T := TX7) (N := 5) hx hb hts inX7_init_RX7 tyX7 tyX7_ok nmX7 hown hK hP hD hS 0 rfl rfl 1 (Nat.le_of_ble_eq_true rfl) (hts _ (List.mem_of_getElem? (i := 6) rfl)) (fun _ h9 => h9) rfl hin rfl (by decide +kernel) rfl rfl (Nat.le_of_ble_eq_true rfl) dX7_init_19 (fun H locs hP hD hS => ?_)
  have hP : va_P g.1 az_cl ([(h0, .inr (7, [.ref q1, .ref q2, .int 0, .int 0, .null])), (q1, .inl (g.2 0, 1036, .inl (fun _ => 0))), (q2, .inl (g.2 0, 8288, .inl (fun _ => 0)))]) _ := hP
  have hD : va_D A ([(h0, .inr (7, [.ref q1, .ref q2, .int 0, .int 0, .null])), (q1, .inl (g.2 0, 1036, .inl (fun _ => 0))), (q2, .inl (g.2 0, 8288, .inl (fun _ => 0)))]) := hD
  refine lv_aload_n hx hb dX7_init_22 rfl (lv_at hl 0 rfl) ?_
  refine lv_sipush (v := (1036 : Int32)) hx hb dX7_init_23 (by decide) ?_
  refine va_newa (D := g.1) (atype := .int) (a0 := (1036, .inl (fun _ => 0))) (N' := 1036) hx hb (hts _ (List.mem_of_getElem? (i := 4) rfl)) rfl hK hP hD hS hA (fun _ => rfl) (by decide) (by decide) (by decide) (Nat.le_of_ble_eq_true rfl) (Nat.le_of_ble_eq_true rfl) dX7_init_26 (fun q3 cAq3 H hK9 hP hD hS => ?_)
  obtain rfl := az_sameI hK hK9
  refine va_putF (D := g.1) (ci := 7) (v := .ref q3) (ty := .array .int) (C := RX7) (T := TX7) (N := 5) hx hb hts inX7_init_RX7 tyX7 tyX7_ok nmX7 hown hK hP hD hS 0 rfl rfl 4 (Nat.le_of_ble_eq_true rfl) (hts _ (List.mem_of_getElem? (i := 7) rfl)) (fun _ h9 => h9) rfl hin rfl (by decide +kernel) rfl rfl (Nat.le_of_ble_eq_true rfl) dX7_init_28 (fun H locs hP hD hS => ?_)
  have hP : va_P g.1 az_cl ([(h0, .inr (7, [.ref q1, .ref q2, .int 0, .int 0, .ref q3])), (q1, .inl (g.2 0, 1036, .inl (fun _ => 0))), (q2, .inl (g.2 0, 8288, .inl (fun _ => 0))), (q3, .inl (g.2 0, 1036, .inl (fun _ => 0)))]) _ := hP
  have hD : va_D A ([(h0, .inr (7, [.ref q1, .ref q2, .int 0, .int 0, .ref q3])), (q1, .inl (g.2 0, 1036, .inl (fun _ => 0))), (q2, .inl (g.2 0, 8288, .inl (fun _ => 0))), (q3, .inl (g.2 0, 1036, .inl (fun _ => 0)))]) := hD
  obtain ⟨AD, eAD⟩ : ∃ z : Nat → Nat, z = (fun i => match i with | 0 => h0 | 1 => q1 | 2 => q2 | _ => q3) := ⟨_, rfl⟩
  have hP : va_P g.1 az_cl (az_cM g AD az_z) H := by rw [eAD]; exact hP
  have hD : va_D A (az_cM g AD az_z) := by rw [eAD]; exact hD
  have hAD : AD 0 = h0 := by subst eAD; rfl
  rw [← hAD] at hl
  refine lv_aload_n hx hb dX7_init_31 rfl (lv_at hl 0 rfl) ?_
  refine lv_iconst (v := (4 : Int32)) hx hb dX7_init_32 (by decide) ?_
  refine lv_iconst (v := (4 : Int32)) hx hb dX7_init_33 (by decide) ?_
  refine lv_iconst (v := (5 : Int32)) hx hb dX7_init_34 (by decide) ?_
  refine az_callPv (w2 := az_cM g AD (va_up az_z 0 o)) (As := [.int (4 : Int32), .int (4 : Int32), .int (5 : Int32)]) (rest := []) ⟨hx, hb, hml, hown, hts⟩ hl.1 (kX7_begins l g AD az_z 4 4 5 o hF) (cwV 3 hts gX7_init_X7_begins rfl rfl rfl (by decide +kernel) ⟨(Nat.le_of_ble_eq_true rfl), (Nat.le_of_ble_eq_true rfl)⟩) rfl hK hP hD hS hA (wr := []) (by rw [List.append_nil]) (by rw [List.append_nil]) 0 rfl rfl rfl (Nat.le_of_ble_eq_true rfl) dX7_init_35 ⟨(Nat.le_of_ble_eq_true rfl), (Nat.le_of_ble_eq_true rfl)⟩ rfl (fun H locs hP hD hS => ?_)
  have hP : va_P g.1 az_cl ((fun (ad : Nat → Nat) => az_cM g ad (va_up az_z 0 o)) (AD)) _ := hP
  have hD : va_D A ((fun (ad : Nat → Nat) => az_cM g ad (va_up az_z 0 o)) (AD)) := hD
  exact az_retN (AD) hAD hx hb hr hlocks hK hP hD hS dX7_init_38 (Nat.le_of_ble_eq_true rfl) (Nat.le_of_ble_eq_true rfl)

