/-! THE LAW's own calls: a call with its catches, never throwing -/
def az_ou (g : az_G) (ob : Nat) (f : Nat → Int64) : Nat × va_E := (ob, .inl (g.2 2, 1, .inr (.inl f)))
abbrev az_wF (g : az_G) (ax an au : Nat → Nat) (aw : Nat → Nat → Nat) (V T : az_St) (S : Nat → az_St) (hs : Nat → Int32) : va_W := az_w6 g ax an au V (az_cV g au T ++ az_cH g ax aw S hs)
section AW
variable {p : Program} {l : Launch} {e : Env} {R : Room} {s : State} {m : MethodId} {args : Array Value} {below : List Frame} {meth : Method} {c : Code} {H : Heap} {locs : List Loc} {cells slots : Nat} {Q : State → Prop}
theorem az_bodyTW {y : MethodName} {wl wl' : List Cond} {rm : Room} {av : List Value} {g : az_G} {sa : Nat → Nat} {ws : va_W} {cc : ByteArray} {maxL mc ms : Nat} {ret : Option FieldType} {hh : List (Nat × Nat × Nat × Nat)} {Qc : (Nat → Prop) → Array Value → State → Outcome → State → Prop} {XC : (Nat → Prop) → String → State → State → Prop}
    (hy : plainName y.cls = true) (hw : wl = Cond.codeWith y cc maxL ret hh :: wl') (hav : (lg_sl av).length ≤ maxL)
    (body : ∀ (p : Program) (e : Env) (s : State) (m : MethodId) (args : Array Value) (below : List Frame) (meth : Method) (c : Code) (A : Nat → Prop), p.tables.exec = Jvm.exec → c.code = cc → meth.sig.returnType = ret → (∀ w ∈ wl, w.before args s = true) → s.vm.findClass y.cls = some m.cls → c.maxLocals = maxL → meth.locks = false →
      c.exceptionTable.toList = tableOf hh → az_cx sa A s s.heap →
      (∀ q : Nat, s.heap.size ≤ q → A q) → va_K g.1 az_cl (az_tys g) s → va_P g.1 az_cl ws s.heap → va_D A ws → va_S A s.heap s.heap [] → ∀ ls : Array Slot, lv_has ls maxL (lv_args 0 av) → W p l e rm s m args below meth c s.heap [] 0 0 (vx_MQ below (Qc A) (XC A) args s mc ms A) (F0 m 0 ls [])) :
    ∀ sz : Nat, vx_Met l y wl rm (va_Pc av (az_preT g sa ws sz)) (Qc (va_A ws sz)) (XC (va_A ws sz)) mc ms (va_A ws sz) := by
  intro sz
  refine vx_ofWH (hh := hh) (cc := cc) (maxL := maxL) (ret := ret) hy hw ?_
  intro p e s m args below meth c s₁ B hml hv
  have htab := vx_table (x := y) B (atoms_spec (ws := wl) B.pre _ (by rw [hw]; exact List.mem_cons_self))
  obtain ⟨rfl, ⟨hsz, hP, hK, hD0⟩, hcx⟩ := hv
  subst hsz
  have h := body p e s m av.toArray below meth c (va_A ws s.heap.size) B.exec B.bytes B.returns (atoms_spec (ws := wl) B.pre) (findClass_of_methodNamed B.named) hml B.notSynchronized htab hcx (fun q h => Or.inr h) hK hP hD0.self va_S.rf
    ((lg_sl av ++ List.replicate (maxL - (lg_sl av).length) Slot.unset).toArray) (lv_entry av hav)
  rw [lg_entry_eq]
  exact h
variable {g : az_G} {sa : Nat → Nat} {cc : ByteArray} {pc : Nat} {ls : Array Slot} {ws ws' : va_W} {A : Nat → Prop} {mc ms : Nat}
variable {H0 : Heap} {y : MethodName} {bytes : ByteArray} {maxL nL n index : Nat} {ret : Option FieldType} {wl : List Cond} {rm : Room} {Ts : List Cond} {own C : String} {b : Addr} {As rest : List Value} {wc w1 w2 wr : va_W}
/-- a call that may throw, its world cut out by a permutation -/
theorem az_callPTi {k mcc : Nat} {r : Int32} (S : CallFix p m c cc nL s args Ts own) (hl : ls.size = nL) (hM : az_TI l y wl rm (.ref b :: As) g sa wc k r w1 mcc) (cw : CallW R s args own C index y bytes maxL ret wl rm mcc (6 * mcc) n) (hn : As.length = n)
    (hK : va_K g.1 az_cl (az_tys g) s) (hcx : az_cx sa A s H0) (hP : va_P g.1 az_cl ws H) (hD : va_D A ws) (hS : va_S A H0 H locs) (hA : ∀ q : Nat, H0.size ≤ q → A q) (hp1 : ws.Perm (wc ++ wr)) (hp2 : (w1 ++ wr).Perm w2)
    (q0 : Nat) {ci : Nat} {fs : List Value} {q : vw_C} (hc : az_cl[ci]? = some q) (hqC : q.1 = C) (he : wc[q0]? = some (b, .inr (ci, fs)))
    (hroom : (rest.map fun v => v.category).sum ≤ 8) (hdg : decode cc pc = .ok (.invokevirtual index, 3)) (hf : cells + mcc ≤ R.cells ∧ slots + 6 * mcc ≤ R.slots)
    {st0 : List Value} (hst : st0 = As.reverse ++ .ref b :: rest)
    (kx : k ≠ 0 → ∀ (ce : Cell) (q9 : Addr) (H1 : Heap) (locs1 : List Loc), va_P g.1 az_cl w2 H1 → va_D A w2 → va_S A H0 H1 locs1 → H1[q9]? = some ce → ce.vm = .none → s.vm.findClass (az_exc k) = some ce.cls → vx_W p l e R s m args below meth c H1 locs1 (cells + mcc) (slots + 6 * mcc) Q (F0 m pc ls rest) q9)
    (kk : k = 0 → ∀ (H1 : Heap) (locs1 : List Loc), va_P g.1 az_cl w2 H1 → va_D A w2 → va_S A H0 H1 locs1 → W p l e R s m args below meth c H1 locs1 (cells + mcc) (slots + 6 * mcc) Q (F0 m (pc + 3) ls (.int r :: rest))) :
    W p l e R s m args below meth c H locs cells slots Q (F0 m pc ls st0) := by
  replace hP := az_sndP hp1 hP
  replace hD := az_sndD hp1 hD
  have hPc := (az_P_app hP).1
  have hFc := az_freeP hD hS hA
  have hDc : va_D (fun _ => True) wc := by
    have := az_D_iff.mp hD
    rw [List.map_append, List.nodup_append] at this
    exact az_D_iff.mpr ⟨this.1.1, fun _ _ => trivial⟩
  have hcx1 : az_cx sa (va_A wc H.size) s H := (hcx.kept (fun a h1 h2 => hS.2.1 a h1 h2)).narrow hFc
  refine vx_calli (vx_runV (As := As) (rest := rest) S (hM H.size) cw ⟨az_blindT _ _ _ _ _, ?_, fun U hU hW => ⟨rfl, ⟨by rw [hU], by rw [hU]; exact hPc, va_K.moved hW.alike hK, hDc⟩, by rw [hU]; exact az_cx.moved hW hcx1⟩⟩ rfl hn hl hst (lv_room hroom) hdg hf) hS (fun q _ h => hFc q h) hFc (fun q _ h => hFc q h)
    (fun E ce q9 u t H1 locs1 ht hvm hne hB hz1 hk1 hS hce hcv hcl => ?_) (fun r2 u t H1 locs1 ht hvm hw hB hz1 hk1 hS => ?_)
  · have := va_recv (q := q) hK hPc hc he
    rw [hqC] at this
    exact this
  · obtain ⟨rfl, hP1, -, hD1⟩ := hB
    rw [ht] at hP1
    obtain ⟨hP2, hD2⟩ := az_joinP hP hD hFc hk1 hP1 hD1
    exact kx hne ce q9 H1 locs1 (az_sndP hp2 hP2) (az_sndD hp2 hD2) hS hce hcv hcl
  · obtain ⟨hP1, -, hD1⟩ := hB
    rw [ht] at hP1
    obtain ⟨hP2, hD2⟩ := az_joinP hP hD hFc hk1 hP1 hD1
    obtain ⟨hk0, hw⟩ := hw
    subst hw
    exact kk hk0 H1 locs1 (az_sndP hp2 hP2) (az_sndD hp2 hD2) hS
theorem az_callPTv {k mcc : Nat} (S : CallFix p m c cc nL s args Ts own) (hl : ls.size = nL) (hM : az_TV l y wl rm (.ref b :: As) g sa wc k w1 mcc) (cw : CallW R s args own C index y bytes maxL ret wl rm mcc (6 * mcc) n) (hn : As.length = n)
    (hK : va_K g.1 az_cl (az_tys g) s) (hcx : az_cx sa A s H0) (hP : va_P g.1 az_cl ws H) (hD : va_D A ws) (hS : va_S A H0 H locs) (hA : ∀ q : Nat, H0.size ≤ q → A q) (hp1 : ws.Perm (wc ++ wr)) (hp2 : (w1 ++ wr).Perm w2)
    (q0 : Nat) {ci : Nat} {fs : List Value} {q : vw_C} (hc : az_cl[ci]? = some q) (hqC : q.1 = C) (he : wc[q0]? = some (b, .inr (ci, fs)))
    (hroom : (rest.map fun v => v.category).sum ≤ 8) (hdg : decode cc pc = .ok (.invokevirtual index, 3)) (hf : cells + mcc ≤ R.cells ∧ slots + 6 * mcc ≤ R.slots)
    {st0 : List Value} (hst : st0 = As.reverse ++ .ref b :: rest)
    (kx : k ≠ 0 → ∀ (ce : Cell) (q9 : Addr) (H1 : Heap) (locs1 : List Loc), va_P g.1 az_cl w2 H1 → va_D A w2 → va_S A H0 H1 locs1 → H1[q9]? = some ce → ce.vm = .none → s.vm.findClass (az_exc k) = some ce.cls → vx_W p l e R s m args below meth c H1 locs1 (cells + mcc) (slots + 6 * mcc) Q (F0 m pc ls rest) q9)
    (kk : k = 0 → ∀ (H1 : Heap) (locs1 : List Loc), va_P g.1 az_cl w2 H1 → va_D A w2 → va_S A H0 H1 locs1 → W p l e R s m args below meth c H1 locs1 (cells + mcc) (slots + 6 * mcc) Q (F0 m (pc + 3) ls rest)) :
    W p l e R s m args below meth c H locs cells slots Q (F0 m pc ls st0) := by
  replace hP := az_sndP hp1 hP
  replace hD := az_sndD hp1 hD
  have hPc := (az_P_app hP).1
  have hFc := az_freeP hD hS hA
  have hDc : va_D (fun _ => True) wc := by
    have := az_D_iff.mp hD
    rw [List.map_append, List.nodup_append] at this
    exact az_D_iff.mpr ⟨this.1.1, fun _ _ => trivial⟩
  have hcx1 : az_cx sa (va_A wc H.size) s H := (hcx.kept (fun a h1 h2 => hS.2.1 a h1 h2)).narrow hFc
  refine vx_callv (vx_runV (As := As) (rest := rest) S (hM H.size) cw ⟨az_blindT _ _ _ _ _, ?_, fun U hU hW => ⟨rfl, ⟨by rw [hU], by rw [hU]; exact hPc, va_K.moved hW.alike hK, hDc⟩, by rw [hU]; exact az_cx.moved hW hcx1⟩⟩ rfl hn hl hst (lv_room hroom) hdg hf) hS (fun q _ h => hFc q h) hFc (fun q _ h => hFc q h)
    (fun E ce q9 u t H1 locs1 ht hvm hne hB hz1 hk1 hS hce hcv hcl => ?_) (fun u t H1 locs1 ht hvm hw hB hz1 hk1 hS => ?_)
  · have := va_recv (q := q) hK hPc hc he
    rw [hqC] at this
    exact this
  · obtain ⟨rfl, hP1, -, hD1⟩ := hB
    rw [ht] at hP1
    obtain ⟨hP2, hD2⟩ := az_joinP hP hD hFc hk1 hP1 hD1
    exact kx hne ce q9 H1 locs1 (az_sndP hp2 hP2) (az_sndD hp2 hD2) hS hce hcv hcl
  · obtain ⟨hP1, -, hD1⟩ := hB
    rw [ht] at hP1
    obtain ⟨hP2, hD2⟩ := az_joinP hP hD hFc hk1 hP1 hD1
    exact kk hw H1 locs1 (az_sndP hp2 hP2) (az_sndD hp2 hD2) hS
/-- a call of a static method with catches, that never throws -/
theorem az_callLW {mcc : Nat} {r : Int32} {hh : List (Nat × Nat × Nat × Nat)} (S : CallFix p m c cc nL s args Ts own) (hl : ls.size = nL) (hM : az_TI l y wl rm As g sa wc 0 r w1 mcc) (cw : vx_CSW R s args own index y bytes maxL ret hh wl rm mcc (6 * mcc) n) (hn : As.length = n)
    (hK : va_K g.1 az_cl (az_tys g) s) (hcx : az_cx sa A s H0) (hP : va_P g.1 az_cl (wc ++ wr) H) (hD : va_D A (wc ++ wr)) (hS : va_S A H0 H locs) (hA : ∀ q : Nat, H0.size ≤ q → A q)
    (hroom : (rest.map fun v => v.category).sum ≤ 8) (hdg : decode cc pc = .ok (.invokestatic index, 3)) (hf : cells + mcc ≤ R.cells ∧ slots + 6 * mcc ≤ R.slots)
    {st0 : List Value} (hst : st0 = As.reverse ++ rest)
    (kk : ∀ (H1 : Heap) (locs1 : List Loc), va_P g.1 az_cl (w1 ++ wr) H1 → va_D A (w1 ++ wr) → va_S A H0 H1 locs1 → W p l e R s m args below meth c H1 locs1 (cells + mcc) (slots + 6 * mcc) Q (F0 m (pc + 3) ls (.int r :: rest))) :
    W p l e R s m args below meth c H locs cells slots Q (F0 m pc ls st0) := by
  have hPc := (az_P_app hP).1
  have hFc := az_freeP hD hS hA
  have hDc : va_D (fun _ => True) wc := by
    have := az_D_iff.mp hD
    rw [List.map_append, List.nodup_append] at this
    exact az_D_iff.mpr ⟨this.1.1, fun _ _ => trivial⟩
  have hcx1 : az_cx sa (va_A wc H.size) s H := (hcx.kept (fun a h1 h2 => hS.2.1 a h1 h2)).narrow hFc
  refine vx_calli (vx_runSX (As := As) (rest := rest) S (hM H.size) cw ⟨az_blindT _ _ _ _ _, fun U hU hW => ⟨rfl, ⟨by rw [hU], by rw [hU]; exact hPc, va_K.moved hW.alike hK, hDc⟩, by rw [hU]; exact az_cx.moved hW hcx1⟩⟩ rfl hn hl hst (lv_room hroom) hdg hf) hS (fun q _ h => hFc q h) hFc (fun q _ h => hFc q h)
    (fun E ce q9 u t H1 locs1 ht hvm hne hB hz1 hk1 hS hce hcv hcl => absurd rfl hne) (fun r2 u t H1 locs1 ht hvm hw hB hz1 hk1 hS => ?_)
  obtain ⟨hP1, -, hD1⟩ := hB
  rw [ht] at hP1
  obtain ⟨hP2, hD2⟩ := az_joinP hP hD hFc hk1 hP1 hD1
  have hw := hw.2
  subst hw
  exact kk H1 locs1 hP2 hD2 hS
end AW

def FL_reset (V T : az_St) (S : Nat → az_St) (hs : Nat → Int32) (x1 : Int32) (x2 : Int32) (x3 : Int32) : Option (Int32 × az_St × az_St × (Nat → az_St) × (Nat → Int32)) := (FX6_reset V T S hs x1 x2 x3).bind (fun o => if o.1 = 0 then some ((0 : Int32), (va_up (va_up (va_up (va_up (va_up (va_up (va_up (va_up (va_up (va_up (va_up (va_up (va_up (va_up (va_up (va_up (va_up V 0 o.2.2.1) 1 o.2.2.2.1) 2 o.2.2.2.2.1) 3 o.2.2.2.2.2.1) 4 o.2.2.2.2.2.2.1) 5 o.2.2.2.2.2.2.2.1) 6 o.2.2.2.2.2.2.2.2.1) 7 o.2.2.2.2.2.2.2.2.2.1) 8 o.2.2.2.2.2.2.2.2.2.2.1) 9 o.2.2.2.2.2.2.2.2.2.2.2.1) 10 o.2.2.2.2.2.2.2.2.2.2.2.2.1) 11 o.2.2.2.2.2.2.2.2.2.2.2.2.2.1) 12 o.2.2.2.2.2.2.2.2.2.2.2.2.2.2.1) 13 o.2.2.2.2.2.2.2.2.2.2.2.2.2.2.2.1) 14 o.2.2.2.2.2.2.2.2.2.2.2.2.2.2.2.2.1) 15 o.2.2.2.2.2.2.2.2.2.2.2.2.2.2.2.2.2.1) 16 o.2.2.2.2.2.2.2.2.2.2.2.2.2.2.2.2.2.2.1), T, o.2.1, o.2.2.2.2.2.2.2.2.2.2.2.2.2.2.2.2.2.2.2) else (if o.1 = 2 then some ((1 : Int32), (va_up (va_up (va_up (va_up (va_up (va_up (va_up (va_up (va_up (va_up (va_up (va_up (va_up (va_up (va_up (va_up (va_up V 0 o.2.2.1) 1 o.2.2.2.1) 2 o.2.2.2.2.1) 3 o.2.2.2.2.2.1) 4 o.2.2.2.2.2.2.1) 5 o.2.2.2.2.2.2.2.1) 6 o.2.2.2.2.2.2.2.2.1) 7 o.2.2.2.2.2.2.2.2.2.1) 8 o.2.2.2.2.2.2.2.2.2.2.1) 9 o.2.2.2.2.2.2.2.2.2.2.2.1) 10 o.2.2.2.2.2.2.2.2.2.2.2.2.1) 11 o.2.2.2.2.2.2.2.2.2.2.2.2.2.1) 12 o.2.2.2.2.2.2.2.2.2.2.2.2.2.2.1) 13 o.2.2.2.2.2.2.2.2.2.2.2.2.2.2.2.1) 14 o.2.2.2.2.2.2.2.2.2.2.2.2.2.2.2.2.1) 15 o.2.2.2.2.2.2.2.2.2.2.2.2.2.2.2.2.2.1) 16 o.2.2.2.2.2.2.2.2.2.2.2.2.2.2.2.2.2.2.1), T, o.2.1, o.2.2.2.2.2.2.2.2.2.2.2.2.2.2.2.2.2.2.2) else none))
set_option maxHeartbeats 8000000 in
set_option maxRecDepth 100000 in
theorem kL_reset (l : Launch) (hst : l.stackTraces = false) (g : az_G) (sa : Nat → Nat) (ax an au : Nat → Nat) (aw : Nat → Nat → Nat) (V T : az_St) (S : Nat → az_St) (hs : Nat → Int32) (x1 : Int32) (x2 : Int32) (x3 : Int32) (u : Int32 × az_St × az_St × (Nat → az_St) × (Nat → Int32)) (h : FL_reset V T S hs x1 x2 x3 = some u) : az_TI l yL_reset wsL_reset ({ frames := 8, cells := 3, slots := 18, locals := 187 } : Room) [.ref (ax 0), .int x1, .int x2, .int x3] g sa (az_wF g ax an au aw V T S hs) 0 u.1 (az_wF g ax an au aw u.2.1 u.2.2.1 u.2.2.2.1 u.2.2.2.2) 3 := by
  refine az_bodyTW (cc := cL_reset) (maxL := 5) (ret := (some .int)) (mc := 3) (ms := 18) (Qc := fun A => az_QTI g (az_wF g ax an au aw u.2.1 u.2.2.1 u.2.2.2.1 u.2.2.2.2) 0 u.1 A) (XC := fun A => az_XT g (az_wF g ax an au aw u.2.1 u.2.2.1 u.2.2.2.1 u.2.2.2.2) 0 A) (by decide +kernel) rfl (Nat.le_of_ble_eq_true rfl) ?_
  intro p e s m args below meth c A hx hb hr hts hown hml hlocks htab hcx hA hK hP hD hS ls hl
  have hl : lv_has ls 5 [(0, .ref (ax 0)), (1, .int x1), (2, .int x2), (3, .int x3)] := hl
  unfold FL_reset at h
  obtain ⟨o, hc9, h⟩ := az_bnd h
  refine lv_aload_n hx hb dL_reset_0 rfl (lv_at hl 0 rfl) ?_
  refine lv_iload_n hx hb dL_reset_1 rfl (lv_at hl 1 rfl) ?_
  refine lv_iload_n hx hb dL_reset_2 rfl (lv_at hl 2 rfl) ?_
  refine lv_iload_n hx hb dL_reset_3 rfl (lv_at hl 3 rfl) ?_
  refine az_callPTv (wr := []) (w2 := az_wF g ax an au aw (va_up (va_up (va_up (va_up (va_up (va_up (va_up (va_up (va_up (va_up (va_up (va_up (va_up (va_up (va_up (va_up (va_up V 0 o.2.2.1) 1 o.2.2.2.1) 2 o.2.2.2.2.1) 3 o.2.2.2.2.2.1) 4 o.2.2.2.2.2.2.1) 5 o.2.2.2.2.2.2.2.1) 6 o.2.2.2.2.2.2.2.2.1) 7 o.2.2.2.2.2.2.2.2.2.1) 8 o.2.2.2.2.2.2.2.2.2.2.1) 9 o.2.2.2.2.2.2.2.2.2.2.2.1) 10 o.2.2.2.2.2.2.2.2.2.2.2.2.1) 11 o.2.2.2.2.2.2.2.2.2.2.2.2.2.1) 12 o.2.2.2.2.2.2.2.2.2.2.2.2.2.2.1) 13 o.2.2.2.2.2.2.2.2.2.2.2.2.2.2.2.1) 14 o.2.2.2.2.2.2.2.2.2.2.2.2.2.2.2.2.1) 15 o.2.2.2.2.2.2.2.2.2.2.2.2.2.2.2.2.2.1) 16 o.2.2.2.2.2.2.2.2.2.2.2.2.2.2.2.2.2.2.1) T o.2.1 o.2.2.2.2.2.2.2.2.2.2.2.2.2.2.2.2.2.2.2) (As := [.int x1, .int x2, .int x3]) (rest := []) ⟨hx, hb, hml, hown, hts⟩ hl.1 (kX6_reset l hst g sa ax an au aw V T S hs x1 x2 x3 o hc9) (cwV 3 hts gL_reset_X6_reset rfl rfl rfl (by decide +kernel) ⟨(Nat.le_of_ble_eq_true rfl), (Nat.le_of_ble_eq_true rfl)⟩) rfl hK hcx hP hD hS hA (by rw [List.append_nil]) (by rw [List.append_nil]) 0 rfl rfl rfl (Nat.le_of_ble_eq_true rfl) dL_reset_4 ⟨(Nat.le_of_ble_eq_true rfl), (Nat.le_of_ble_eq_true rfl)⟩ rfl (fun n0 ce q9 H locs hP hD hS hce hcv hcl => ?_) (fun n0 H locs hP hD hS => ?_)
  · replace h := az_neg n0 h
    by_cases c0 : o.1 = 2
    · replace h := az_pos c0 h
      rw [c0] at hcl
      refine vx_catch (E := "java/lang/IllegalArgumentException") (name := "java/lang/IllegalArgumentException") hown [] (⟨0, 7, 10, 13⟩ : ExceptionTableEntry) [] (htab.trans rfl) (fun z hz => absurd hz List.not_mem_nil) rfl (by decide) (hts _ (List.mem_of_getElem? (i := 1) rfl)) (va_Nw.use rfl (hcx.2.1 2)) hce hcv hcl ?_
      refine lv_astore (lv' := [(4, .ref (q9)), (0, .ref (ax 0)), (1, .int x1), (2, .int x2), (3, .int x3)]) hx hb dL_reset_10 hl (by decide) rfl (fun ls hl => ?_)
      refine lv_iconst (v := (1 : Int32)) hx hb dL_reset_12 (by decide) ?_
      rw [← Option.some.inj h]
      exact az_iretT hx hb hr hlocks hK hP hD hS dL_reset_13 (Nat.le_of_ble_eq_true rfl) (Nat.le_of_ble_eq_true rfl)
    · replace h := az_neg c0 h
      exact az_non h
  · replace h := az_pos n0 h
    refine lv_goto (tgt := 14) hx hb dL_reset_7 (by decide) ?_
    refine lv_iconst (v := (0 : Int32)) hx hb dL_reset_14 (by decide) ?_
    rw [← Option.some.inj h]
    exact az_iretT hx hb hr hlocks hK hP hD hS dL_reset_15 (Nat.le_of_ble_eq_true rfl) (Nat.le_of_ble_eq_true rfl)

def FL_write (V T : az_St) (S : Nat → az_St) (hs : Nat → Int32) (f : Nat → Int64) (x1 : Int32) (x2 : Int32) : Option (Int32 × (Nat → Int64) × az_St × az_St × (Nat → az_St) × (Nat → Int32)) := (FX6_write V T S hs x1 x2).bind (fun o => if o.1 = 0 then some ((0 : Int32), vp_updL f 0 (o.2.1).toInt64, (va_up (va_up (va_up (va_up (va_up (va_up (va_up (va_up (va_up (va_up V 0 o.2.2.2.1) 2 o.2.2.2.2.1) 3 o.2.2.2.2.2.1) 5 o.2.2.2.2.2.2.1) 6 o.2.2.2.2.2.2.2.1) 7 o.2.2.2.2.2.2.2.2.1) 8 o.2.2.2.2.2.2.2.2.2.1) 9 o.2.2.2.2.2.2.2.2.2.2.1) 15 o.2.2.2.2.2.2.2.2.2.2.2.1) 16 o.2.2.2.2.2.2.2.2.2.2.2.2.1), T, o.2.2.1, o.2.2.2.2.2.2.2.2.2.2.2.2.2) else (if o.1 = 1 then some ((1 : Int32), f, (va_up (va_up (va_up (va_up (va_up (va_up (va_up (va_up (va_up (va_up V 0 o.2.2.2.1) 2 o.2.2.2.2.1) 3 o.2.2.2.2.2.1) 5 o.2.2.2.2.2.2.1) 6 o.2.2.2.2.2.2.2.1) 7 o.2.2.2.2.2.2.2.2.1) 8 o.2.2.2.2.2.2.2.2.2.1) 9 o.2.2.2.2.2.2.2.2.2.2.1) 15 o.2.2.2.2.2.2.2.2.2.2.2.1) 16 o.2.2.2.2.2.2.2.2.2.2.2.2.1), T, o.2.2.1, o.2.2.2.2.2.2.2.2.2.2.2.2.2) else if o.1 = 3 then some ((2 : Int32), f, (va_up (va_up (va_up (va_up (va_up (va_up (va_up (va_up (va_up (va_up V 0 o.2.2.2.1) 2 o.2.2.2.2.1) 3 o.2.2.2.2.2.1) 5 o.2.2.2.2.2.2.1) 6 o.2.2.2.2.2.2.2.1) 7 o.2.2.2.2.2.2.2.2.1) 8 o.2.2.2.2.2.2.2.2.2.1) 9 o.2.2.2.2.2.2.2.2.2.2.1) 15 o.2.2.2.2.2.2.2.2.2.2.2.1) 16 o.2.2.2.2.2.2.2.2.2.2.2.2.1), T, o.2.2.1, o.2.2.2.2.2.2.2.2.2.2.2.2.2) else none))
set_option maxHeartbeats 8000000 in
set_option maxRecDepth 100000 in
theorem kL_write (l : Launch) (hst : l.stackTraces = false) (g : az_G) (sa : Nat → Nat) (ax an au : Nat → Nat) (aw : Nat → Nat → Nat) (ob : Nat) (V T : az_St) (S : Nat → az_St) (hs : Nat → Int32) (f : Nat → Int64) (x1 : Int32) (x2 : Int32) (u : Int32 × (Nat → Int64) × az_St × az_St × (Nat → az_St) × (Nat → Int32)) (h : FL_write V T S hs f x1 x2 = some u) : az_TI l yL_write wsL_write ({ frames := 9, cells := 2, slots := 12, locals := 186 } : Room) [.ref (ax 0), .int x1, .int x2, .ref ob] g sa (az_ou g ob f :: az_wF g ax an au aw V T S hs) 0 u.1 (az_ou g ob u.2.1 :: az_wF g ax an au aw u.2.2.1 u.2.2.2.1 u.2.2.2.2.1 u.2.2.2.2.2) 2 := by
  refine az_bodyTW (cc := cL_write) (maxL := 5) (ret := (some .int)) (mc := 2) (ms := 12) (Qc := fun A => az_QTI g (az_ou g ob u.2.1 :: az_wF g ax an au aw u.2.2.1 u.2.2.2.1 u.2.2.2.2.1 u.2.2.2.2.2) 0 u.1 A) (XC := fun A => az_XT g (az_ou g ob u.2.1 :: az_wF g ax an au aw u.2.2.1 u.2.2.2.1 u.2.2.2.2.1 u.2.2.2.2.2) 0 A) (by decide +kernel) rfl (Nat.le_of_ble_eq_true rfl) ?_
  intro p e s m args below meth c A hx hb hr hts hown hml hlocks htab hcx hA hK hP hD hS ls hl
  have hl : lv_has ls 5 [(0, .ref (ax 0)), (1, .int x1), (2, .int x2), (3, .ref (ob))] := hl
  unfold FL_write at h
  obtain ⟨o, hc9, h⟩ := az_bnd h
  refine lv_aload_n hx hb dL_write_0 rfl (lv_at hl 3 rfl) ?_
  refine lv_iconst (v := (0 : Int32)) hx hb dL_write_1 (by decide) ?_
  refine lv_aload_n hx hb dL_write_2 rfl (lv_at hl 0 rfl) ?_
  refine lv_iload_n hx hb dL_write_3 rfl (lv_at hl 1 rfl) ?_
  refine lv_iload_n hx hb dL_write_4 rfl (lv_at hl 2 rfl) ?_
  refine az_callPTi (wr := [az_ou g ob f]) (w2 := az_ou g ob f :: az_wF g ax an au aw (va_up (va_up (va_up (va_up (va_up (va_up (va_up (va_up (va_up (va_up V 0 o.2.2.2.1) 2 o.2.2.2.2.1) 3 o.2.2.2.2.2.1) 5 o.2.2.2.2.2.2.1) 6 o.2.2.2.2.2.2.2.1) 7 o.2.2.2.2.2.2.2.2.1) 8 o.2.2.2.2.2.2.2.2.2.1) 9 o.2.2.2.2.2.2.2.2.2.2.1) 15 o.2.2.2.2.2.2.2.2.2.2.2.1) 16 o.2.2.2.2.2.2.2.2.2.2.2.2.1) T o.2.2.1 o.2.2.2.2.2.2.2.2.2.2.2.2.2) (As := [.int x1, .int x2]) (rest := [.int (0 : Int32), .ref (ob)]) ⟨hx, hb, hml, hown, hts⟩ hl.1 (kX6_write l hst g sa ax an au aw V T S hs x1 x2 o hc9) (cwV 2 hts gL_write_X6_write rfl rfl rfl (by decide +kernel) ⟨(Nat.le_of_ble_eq_true rfl), (Nat.le_of_ble_eq_true rfl)⟩) rfl hK hcx hP hD hS hA (List.perm_append_singleton _ _).symm (List.perm_append_singleton _ _) 0 rfl rfl rfl (Nat.le_of_ble_eq_true rfl) dL_write_5 ⟨(Nat.le_of_ble_eq_true rfl), (Nat.le_of_ble_eq_true rfl)⟩ rfl (fun n0 ce q9 H locs hP hD hS hce hcv hcl => ?_) (fun n0 H locs hP hD hS => ?_)
  · replace h := az_neg n0 h
    by_cases c0 : o.1 = 1
    · replace h := az_pos c0 h
      rw [c0] at hcl
      refine vx_catch (E := "java/lang/IndexOutOfBoundsException") (name := "java/lang/IndexOutOfBoundsException") hown [] (⟨0, 10, 13, 19⟩ : ExceptionTableEntry) [(⟨0, 10, 17, 21⟩ : ExceptionTableEntry)] (htab.trans rfl) (fun z hz => absurd hz List.not_mem_nil) rfl (by decide) (hts _ (List.mem_of_getElem? (i := 1) rfl)) (va_Nw.use rfl (hcx.2.1 1)) hce hcv hcl ?_
      refine lv_astore (lv' := [(4, .ref (q9)), (0, .ref (ax 0)), (1, .int x1), (2, .int x2), (3, .ref (ob))]) hx hb dL_write_13 hl (by decide) rfl (fun ls hl => ?_)
      refine lv_iconst (v := (1 : Int32)) hx hb dL_write_15 (by decide) ?_
      rw [← Option.some.inj h]
      exact az_iretT hx hb hr hlocks hK hP hD hS dL_write_16 (Nat.le_of_ble_eq_true rfl) (Nat.le_of_ble_eq_true rfl)
    · replace h := az_neg c0 h
      by_cases c1 : o.1 = 3
      · replace h := az_pos c1 h
        rw [c1] at hcl
        refine vx_catch (E := "java/lang/IllegalStateException") (name := "java/lang/IllegalStateException") hown [(⟨0, 10, 13, 19⟩ : ExceptionTableEntry)] (⟨0, 10, 17, 21⟩ : ExceptionTableEntry) [] (htab.trans rfl) (fun z hz => by simp only [List.mem_cons, List.not_mem_nil, or_false] at hz; rcases hz with rfl; · exact Or.inr ⟨by decide, "java/lang/IndexOutOfBoundsException", (hts _ (List.mem_of_getElem? (i := 1) rfl)), hcx.2.2.1 3 1 (by decide +kernel)⟩) rfl (by decide) (hts _ (List.mem_of_getElem? (i := 2) rfl)) (va_Nw.use rfl (hcx.2.1 3)) hce hcv hcl ?_
        refine lv_astore (lv' := [(4, .ref (q9)), (0, .ref (ax 0)), (1, .int x1), (2, .int x2), (3, .ref (ob))]) hx hb dL_write_17 hl (by decide) rfl (fun ls hl => ?_)
        refine lv_iconst (v := (2 : Int32)) hx hb dL_write_19 (by decide) ?_
        rw [← Option.some.inj h]
        exact az_iretT hx hb hr hlocks hK hP hD hS dL_write_20 (Nat.le_of_ble_eq_true rfl) (Nat.le_of_ble_eq_true rfl)
      · replace h := az_neg c1 h
        exact az_non h
  · replace h := az_pos n0 h
    refine lv_i2l (v := (o.2.1).toInt64) hx hb dL_write_8 rfl ?_
    refine va_last (D := g.1) (f := f) hx hb hK hP hD hS 0 2 rfl rfl (az_vin (by decide +kernel)) dL_write_9 (fun H locs hP hD hS => ?_)
    have hP : va_P g.1 az_cl (az_ou g ob (vp_updL f 0 (o.2.1).toInt64) :: az_wF g ax an au aw (va_up (va_up (va_up (va_up (va_up (va_up (va_up (va_up (va_up (va_up V 0 o.2.2.2.1) 2 o.2.2.2.2.1) 3 o.2.2.2.2.2.1) 5 o.2.2.2.2.2.2.1) 6 o.2.2.2.2.2.2.2.1) 7 o.2.2.2.2.2.2.2.2.1) 8 o.2.2.2.2.2.2.2.2.2.1) 9 o.2.2.2.2.2.2.2.2.2.2.1) 15 o.2.2.2.2.2.2.2.2.2.2.2.1) 16 o.2.2.2.2.2.2.2.2.2.2.2.2.1) T o.2.2.1 o.2.2.2.2.2.2.2.2.2.2.2.2.2) _ := hP
    have hD : va_D A (az_ou g ob (vp_updL f 0 (o.2.1).toInt64) :: az_wF g ax an au aw (va_up (va_up (va_up (va_up (va_up (va_up (va_up (va_up (va_up (va_up V 0 o.2.2.2.1) 2 o.2.2.2.2.1) 3 o.2.2.2.2.2.1) 5 o.2.2.2.2.2.2.1) 6 o.2.2.2.2.2.2.2.1) 7 o.2.2.2.2.2.2.2.2.1) 8 o.2.2.2.2.2.2.2.2.2.1) 9 o.2.2.2.2.2.2.2.2.2.2.1) 15 o.2.2.2.2.2.2.2.2.2.2.2.1) 16 o.2.2.2.2.2.2.2.2.2.2.2.2.1) T o.2.2.1 o.2.2.2.2.2.2.2.2.2.2.2.2.2) := hD
    refine lv_goto (tgt := 21) hx hb dL_write_10 (by decide) ?_
    refine lv_iconst (v := (0 : Int32)) hx hb dL_write_21 (by decide) ?_
    rw [← Option.some.inj h]
    exact az_iretT hx hb hr hlocks hK hP hD hS dL_write_22 (Nat.le_of_ble_eq_true rfl) (Nat.le_of_ble_eq_true rfl)

def FL_delete (V T : az_St) (S : Nat → az_St) (hs : Nat → Int32) (f : Nat → Int64) (x1 : Int32) : Option (Int32 × (Nat → Int64) × az_St × az_St × (Nat → az_St) × (Nat → Int32)) := (FX6_delete V T S hs x1).bind (fun o => if o.1 = 0 then some ((0 : Int32), vp_updL f 0 (o.2.1).toInt64, (va_up (va_up (va_up V 5 o.2.2.2.1) 9 o.2.2.2.2.1) 15 o.2.2.2.2.2.1), T, o.2.2.1, o.2.2.2.2.2.2) else (if o.1 = 1 then some ((1 : Int32), f, (va_up (va_up (va_up V 5 o.2.2.2.1) 9 o.2.2.2.2.1) 15 o.2.2.2.2.2.1), T, o.2.2.1, o.2.2.2.2.2.2) else if o.1 = 4 then some ((2 : Int32), f, (va_up (va_up (va_up V 5 o.2.2.2.1) 9 o.2.2.2.2.1) 15 o.2.2.2.2.2.1), T, o.2.2.1, o.2.2.2.2.2.2) else none))
set_option maxHeartbeats 8000000 in
set_option maxRecDepth 100000 in
theorem kL_delete (l : Launch) (hst : l.stackTraces = false) (g : az_G) (sa : Nat → Nat) (ax an au : Nat → Nat) (aw : Nat → Nat → Nat) (ob : Nat) (V T : az_St) (S : Nat → az_St) (hs : Nat → Int32) (f : Nat → Int64) (x1 : Int32) (u : Int32 × (Nat → Int64) × az_St × az_St × (Nat → az_St) × (Nat → Int32)) (h : FL_delete V T S hs f x1 = some u) : az_TI l yL_delete wsL_delete ({ frames := 9, cells := 2, slots := 12, locals := 185 } : Room) [.ref (ax 0), .int x1, .ref ob] g sa (az_ou g ob f :: az_wF g ax an au aw V T S hs) 0 u.1 (az_ou g ob u.2.1 :: az_wF g ax an au aw u.2.2.1 u.2.2.2.1 u.2.2.2.2.1 u.2.2.2.2.2) 2 := by
  refine az_bodyTW (cc := cL_delete) (maxL := 4) (ret := (some .int)) (mc := 2) (ms := 12) (Qc := fun A => az_QTI g (az_ou g ob u.2.1 :: az_wF g ax an au aw u.2.2.1 u.2.2.2.1 u.2.2.2.2.1 u.2.2.2.2.2) 0 u.1 A) (XC := fun A => az_XT g (az_ou g ob u.2.1 :: az_wF g ax an au aw u.2.2.1 u.2.2.2.1 u.2.2.2.2.1 u.2.2.2.2.2) 0 A) (by decide +kernel) rfl (Nat.le_of_ble_eq_true rfl) ?_
  intro p e s m args below meth c A hx hb hr hts hown hml hlocks htab hcx hA hK hP hD hS ls hl
  have hl : lv_has ls 4 [(0, .ref (ax 0)), (1, .int x1), (2, .ref (ob))] := hl
  unfold FL_delete at h
  obtain ⟨o, hc9, h⟩ := az_bnd h
  refine lv_aload_n hx hb dL_delete_0 rfl (lv_at hl 2 rfl) ?_
  refine lv_iconst (v := (0 : Int32)) hx hb dL_delete_1 (by decide) ?_
  refine lv_aload_n hx hb dL_delete_2 rfl (lv_at hl 0 rfl) ?_
  refine lv_iload_n hx hb dL_delete_3 rfl (lv_at hl 1 rfl) ?_
  refine az_callPTi (wr := [az_ou g ob f]) (w2 := az_ou g ob f :: az_wF g ax an au aw (va_up (va_up (va_up V 5 o.2.2.2.1) 9 o.2.2.2.2.1) 15 o.2.2.2.2.2.1) T o.2.2.1 o.2.2.2.2.2.2) (As := [.int x1]) (rest := [.int (0 : Int32), .ref (ob)]) ⟨hx, hb, hml, hown, hts⟩ hl.1 (kX6_delete l hst g sa ax an au aw V T S hs x1 o hc9) (cwV 1 hts gL_delete_X6_delete rfl rfl rfl (by decide +kernel) ⟨(Nat.le_of_ble_eq_true rfl), (Nat.le_of_ble_eq_true rfl)⟩) rfl hK hcx hP hD hS hA (List.perm_append_singleton _ _).symm (List.perm_append_singleton _ _) 0 rfl rfl rfl (Nat.le_of_ble_eq_true rfl) dL_delete_4 ⟨(Nat.le_of_ble_eq_true rfl), (Nat.le_of_ble_eq_true rfl)⟩ rfl (fun n0 ce q9 H locs hP hD hS hce hcv hcl => ?_) (fun n0 H locs hP hD hS => ?_)
  · replace h := az_neg n0 h
    by_cases c0 : o.1 = 1
    · replace h := az_pos c0 h
      rw [c0] at hcl
      refine vx_catch (E := "java/lang/IndexOutOfBoundsException") (name := "java/lang/IndexOutOfBoundsException") hown [] (⟨0, 9, 12, 19⟩ : ExceptionTableEntry) [(⟨0, 9, 15, 27⟩ : ExceptionTableEntry)] (htab.trans rfl) (fun z hz => absurd hz List.not_mem_nil) rfl (by decide) (hts _ (List.mem_of_getElem? (i := 1) rfl)) (va_Nw.use rfl (hcx.2.1 1)) hce hcv hcl ?_
      refine lv_astore_n (lv' := [(3, .ref (q9)), (0, .ref (ax 0)), (1, .int x1), (2, .ref (ob))]) hx hb dL_delete_12 rfl hl (by decide) rfl (fun ls hl => ?_)
      refine lv_iconst (v := (1 : Int32)) hx hb dL_delete_13 (by decide) ?_
      rw [← Option.some.inj h]
      exact az_iretT hx hb hr hlocks hK hP hD hS dL_delete_14 (Nat.le_of_ble_eq_true rfl) (Nat.le_of_ble_eq_true rfl)
    · replace h := az_neg c0 h
      by_cases c1 : o.1 = 4
      · replace h := az_pos c1 h
        rw [c1] at hcl
        refine vx_catch (E := "java/util/NoSuchElementException") (name := "java/util/NoSuchElementException") hown [(⟨0, 9, 12, 19⟩ : ExceptionTableEntry)] (⟨0, 9, 15, 27⟩ : ExceptionTableEntry) [] (htab.trans rfl) (fun z hz => by simp only [List.mem_cons, List.not_mem_nil, or_false] at hz; rcases hz with rfl; · exact Or.inr ⟨by decide, "java/lang/IndexOutOfBoundsException", (hts _ (List.mem_of_getElem? (i := 1) rfl)), hcx.2.2.1 4 1 (by decide +kernel)⟩) rfl (by decide) (hts _ (List.mem_of_getElem? (i := 2) rfl)) (va_Nw.use rfl (hcx.2.1 4)) hce hcv hcl ?_
        refine lv_astore_n (lv' := [(3, .ref (q9)), (0, .ref (ax 0)), (1, .int x1), (2, .ref (ob))]) hx hb dL_delete_15 rfl hl (by decide) rfl (fun ls hl => ?_)
        refine lv_iconst (v := (2 : Int32)) hx hb dL_delete_16 (by decide) ?_
        rw [← Option.some.inj h]
        exact az_iretT hx hb hr hlocks hK hP hD hS dL_delete_17 (Nat.le_of_ble_eq_true rfl) (Nat.le_of_ble_eq_true rfl)
      · replace h := az_neg c1 h
        exact az_non h
  · replace h := az_pos n0 h
    refine lv_i2l (v := (o.2.1).toInt64) hx hb dL_delete_7 rfl ?_
    refine va_last (D := g.1) (f := f) hx hb hK hP hD hS 0 2 rfl rfl (az_vin (by decide +kernel)) dL_delete_8 (fun H locs hP hD hS => ?_)
    have hP : va_P g.1 az_cl (az_ou g ob (vp_updL f 0 (o.2.1).toInt64) :: az_wF g ax an au aw (va_up (va_up (va_up V 5 o.2.2.2.1) 9 o.2.2.2.2.1) 15 o.2.2.2.2.2.1) T o.2.2.1 o.2.2.2.2.2.2) _ := hP
    have hD : va_D A (az_ou g ob (vp_updL f 0 (o.2.1).toInt64) :: az_wF g ax an au aw (va_up (va_up (va_up V 5 o.2.2.2.1) 9 o.2.2.2.2.1) 15 o.2.2.2.2.2.1) T o.2.2.1 o.2.2.2.2.2.2) := hD
    refine lv_goto (tgt := 18) hx hb dL_delete_9 (by decide) ?_
    refine lv_iconst (v := (0 : Int32)) hx hb dL_delete_18 (by decide) ?_
    rw [← Option.some.inj h]
    exact az_iretT hx hb hr hlocks hK hP hD hS dL_delete_19 (Nat.le_of_ble_eq_true rfl) (Nat.le_of_ble_eq_true rfl)

def FL_get (V T : az_St) (S : Nat → az_St) (hs : Nat → Int32) (f : Nat → Int64) (x1 : Int32) : Option (Int32 × (Nat → Int64) × az_St × az_St × (Nat → az_St) × (Nat → Int32)) := (FX6_get V x1).bind (fun o => if o.1 = 0 then some ((0 : Int32), vp_updL f 0 (o.2).toInt64, V, T, S, hs) else (if o.1 = 1 then some ((1 : Int32), f, V, T, S, hs) else if o.1 = 4 then some ((2 : Int32), f, V, T, S, hs) else none))
set_option maxHeartbeats 8000000 in
set_option maxRecDepth 100000 in
theorem kL_get (l : Launch) (hst : l.stackTraces = false) (g : az_G) (sa : Nat → Nat) (ax an au : Nat → Nat) (aw : Nat → Nat → Nat) (ob : Nat) (V T : az_St) (S : Nat → az_St) (hs : Nat → Int32) (f : Nat → Int64) (x1 : Int32) (u : Int32 × (Nat → Int64) × az_St × az_St × (Nat → az_St) × (Nat → Int32)) (h : FL_get V T S hs f x1 = some u) : az_TI l yL_get wsL_get ({ frames := 9, cells := 2, slots := 12, locals := 162 } : Room) [.ref (ax 0), .int x1, .ref ob] g sa (az_ou g ob f :: az_wF g ax an au aw V T S hs) 0 u.1 (az_ou g ob u.2.1 :: az_wF g ax an au aw u.2.2.1 u.2.2.2.1 u.2.2.2.2.1 u.2.2.2.2.2) 2 := by
  refine az_bodyTW (cc := cL_get) (maxL := 4) (ret := (some .int)) (mc := 2) (ms := 12) (Qc := fun A => az_QTI g (az_ou g ob u.2.1 :: az_wF g ax an au aw u.2.2.1 u.2.2.2.1 u.2.2.2.2.1 u.2.2.2.2.2) 0 u.1 A) (XC := fun A => az_XT g (az_ou g ob u.2.1 :: az_wF g ax an au aw u.2.2.1 u.2.2.2.1 u.2.2.2.2.1 u.2.2.2.2.2) 0 A) (by decide +kernel) rfl (Nat.le_of_ble_eq_true rfl) ?_
  intro p e s m args below meth c A hx hb hr hts hown hml hlocks htab hcx hA hK hP hD hS ls hl
  have hl : lv_has ls 4 [(0, .ref (ax 0)), (1, .int x1), (2, .ref (ob))] := hl
  unfold FL_get at h
  obtain ⟨o, hc9, h⟩ := az_bnd h
  refine lv_aload_n hx hb dL_get_0 rfl (lv_at hl 2 rfl) ?_
  refine lv_iconst (v := (0 : Int32)) hx hb dL_get_1 (by decide) ?_
  refine lv_aload_n hx hb dL_get_2 rfl (lv_at hl 0 rfl) ?_
  refine lv_iload_n hx hb dL_get_3 rfl (lv_at hl 1 rfl) ?_
  refine az_callPTi (wr := [az_ou g ob f]) (w2 := az_ou g ob f :: az_wF g ax an au aw V T S hs) (As := [.int x1]) (rest := [.int (0 : Int32), .ref (ob)]) ⟨hx, hb, hml, hown, hts⟩ hl.1 (kX6_get l hst g sa ax an au (az_cV g au T ++ az_cH g ax aw S hs) V x1 o hc9) (cwV 1 hts gL_get_X6_get rfl rfl rfl (by decide +kernel) ⟨(Nat.le_of_ble_eq_true rfl), (Nat.le_of_ble_eq_true rfl)⟩) rfl hK hcx hP hD hS hA (List.perm_append_singleton _ _).symm (List.perm_append_singleton _ _) 0 rfl rfl rfl (Nat.le_of_ble_eq_true rfl) dL_get_4 ⟨(Nat.le_of_ble_eq_true rfl), (Nat.le_of_ble_eq_true rfl)⟩ rfl (fun n0 ce q9 H locs hP hD hS hce hcv hcl => ?_) (fun n0 H locs hP hD hS => ?_)
  · replace h := az_neg n0 h
    by_cases c0 : o.1 = 1
    · replace h := az_pos c0 h
      rw [c0] at hcl
      refine vx_catch (E := "java/lang/IndexOutOfBoundsException") (name := "java/lang/IndexOutOfBoundsException") hown [] (⟨0, 9, 12, 19⟩ : ExceptionTableEntry) [(⟨0, 9, 15, 27⟩ : ExceptionTableEntry)] (htab.trans rfl) (fun z hz => absurd hz List.not_mem_nil) rfl (by decide) (hts _ (List.mem_of_getElem? (i := 1) rfl)) (va_Nw.use rfl (hcx.2.1 1)) hce hcv hcl ?_
      refine lv_astore_n (lv' := [(3, .ref (q9)), (0, .ref (ax 0)), (1, .int x1), (2, .ref (ob))]) hx hb dL_get_12 rfl hl (by decide) rfl (fun ls hl => ?_)
      refine lv_iconst (v := (1 : Int32)) hx hb dL_get_13 (by decide) ?_
      rw [← Option.some.inj h]
      exact az_iretT hx hb hr hlocks hK hP hD hS dL_get_14 (Nat.le_of_ble_eq_true rfl) (Nat.le_of_ble_eq_true rfl)
    · replace h := az_neg c0 h
      by_cases c1 : o.1 = 4
      · replace h := az_pos c1 h
        rw [c1] at hcl
        refine vx_catch (E := "java/util/NoSuchElementException") (name := "java/util/NoSuchElementException") hown [(⟨0, 9, 12, 19⟩ : ExceptionTableEntry)] (⟨0, 9, 15, 27⟩ : ExceptionTableEntry) [] (htab.trans rfl) (fun z hz => by simp only [List.mem_cons, List.not_mem_nil, or_false] at hz; rcases hz with rfl; · exact Or.inr ⟨by decide, "java/lang/IndexOutOfBoundsException", (hts _ (List.mem_of_getElem? (i := 1) rfl)), hcx.2.2.1 4 1 (by decide +kernel)⟩) rfl (by decide) (hts _ (List.mem_of_getElem? (i := 2) rfl)) (va_Nw.use rfl (hcx.2.1 4)) hce hcv hcl ?_
        refine lv_astore_n (lv' := [(3, .ref (q9)), (0, .ref (ax 0)), (1, .int x1), (2, .ref (ob))]) hx hb dL_get_15 rfl hl (by decide) rfl (fun ls hl => ?_)
        refine lv_iconst (v := (2 : Int32)) hx hb dL_get_16 (by decide) ?_
        rw [← Option.some.inj h]
        exact az_iretT hx hb hr hlocks hK hP hD hS dL_get_17 (Nat.le_of_ble_eq_true rfl) (Nat.le_of_ble_eq_true rfl)
      · replace h := az_neg c1 h
        exact az_non h
  · replace h := az_pos n0 h
    refine lv_i2l (v := (o.2).toInt64) hx hb dL_get_7 rfl ?_
    refine va_last (D := g.1) (f := f) hx hb hK hP hD hS 0 2 rfl rfl (az_vin (by decide +kernel)) dL_get_8 (fun H locs hP hD hS => ?_)
    have hP : va_P g.1 az_cl (az_ou g ob (vp_updL f 0 (o.2).toInt64) :: az_wF g ax an au aw V T S hs) _ := hP
    have hD : va_D A (az_ou g ob (vp_updL f 0 (o.2).toInt64) :: az_wF g ax an au aw V T S hs) := hD
    refine lv_goto (tgt := 18) hx hb dL_get_9 (by decide) ?_
    refine lv_iconst (v := (0 : Int32)) hx hb dL_get_18 (by decide) ?_
    rw [← Option.some.inj h]
    exact az_iretT hx hb hr hlocks hK hP hD hS dL_get_19 (Nat.le_of_ble_eq_true rfl) (Nat.le_of_ble_eq_true rfl)

def FL_addressOf (V T : az_St) (S : Nat → az_St) (hs : Nat → Int32) (f : Nat → Int64) (x1 : Int32) : Option (Int32 × (Nat → Int64) × az_St × az_St × (Nat → az_St) × (Nat → Int32)) := (FX6_addressOf V x1).bind (fun o => if o.1 = 0 then some ((0 : Int32), vp_updL f 0 (o.2).toInt64, V, T, S, hs) else (if o.1 = 1 then some ((1 : Int32), f, V, T, S, hs) else none))
set_option maxHeartbeats 8000000 in
set_option maxRecDepth 100000 in
theorem kL_addressOf (l : Launch) (hst : l.stackTraces = false) (g : az_G) (sa : Nat → Nat) (ax an au : Nat → Nat) (aw : Nat → Nat → Nat) (ob : Nat) (V T : az_St) (S : Nat → az_St) (hs : Nat → Int32) (f : Nat → Int64) (x1 : Int32) (u : Int32 × (Nat → Int64) × az_St × az_St × (Nat → az_St) × (Nat → Int32)) (h : FL_addressOf V T S hs f x1 = some u) : az_TI l yL_addressOf wsL_addressOf ({ frames := 9, cells := 1, slots := 6, locals := 161 } : Room) [.ref (ax 0), .int x1, .ref ob] g sa (az_ou g ob f :: az_wF g ax an au aw V T S hs) 0 u.1 (az_ou g ob u.2.1 :: az_wF g ax an au aw u.2.2.1 u.2.2.2.1 u.2.2.2.2.1 u.2.2.2.2.2) 1 := by
  refine az_bodyTW (cc := cL_addressOf) (maxL := 4) (ret := (some .int)) (mc := 1) (ms := 6) (Qc := fun A => az_QTI g (az_ou g ob u.2.1 :: az_wF g ax an au aw u.2.2.1 u.2.2.2.1 u.2.2.2.2.1 u.2.2.2.2.2) 0 u.1 A) (XC := fun A => az_XT g (az_ou g ob u.2.1 :: az_wF g ax an au aw u.2.2.1 u.2.2.2.1 u.2.2.2.2.1 u.2.2.2.2.2) 0 A) (by decide +kernel) rfl (Nat.le_of_ble_eq_true rfl) ?_
  intro p e s m args below meth c A hx hb hr hts hown hml hlocks htab hcx hA hK hP hD hS ls hl
  have hl : lv_has ls 4 [(0, .ref (ax 0)), (1, .int x1), (2, .ref (ob))] := hl
  unfold FL_addressOf at h
  obtain ⟨o, hc9, h⟩ := az_bnd h
  refine lv_aload_n hx hb dL_addressOf_0 rfl (lv_at hl 2 rfl) ?_
  refine lv_iconst (v := (0 : Int32)) hx hb dL_addressOf_1 (by decide) ?_
  refine lv_aload_n hx hb dL_addressOf_2 rfl (lv_at hl 0 rfl) ?_
  refine lv_iload_n hx hb dL_addressOf_3 rfl (lv_at hl 1 rfl) ?_
  refine az_callPTi (wr := [az_ou g ob f]) (w2 := az_ou g ob f :: az_wF g ax an au aw V T S hs) (As := [.int x1]) (rest := [.int (0 : Int32), .ref (ob)]) ⟨hx, hb, hml, hown, hts⟩ hl.1 (kX6_addressOf l hst g sa ax an au (az_cV g au T ++ az_cH g ax aw S hs) V x1 o hc9) (cwV 1 hts gL_addressOf_X6_addressOf rfl rfl rfl (by decide +kernel) ⟨(Nat.le_of_ble_eq_true rfl), (Nat.le_of_ble_eq_true rfl)⟩) rfl hK hcx hP hD hS hA (List.perm_append_singleton _ _).symm (List.perm_append_singleton _ _) 0 rfl rfl rfl (Nat.le_of_ble_eq_true rfl) dL_addressOf_4 ⟨(Nat.le_of_ble_eq_true rfl), (Nat.le_of_ble_eq_true rfl)⟩ rfl (fun n0 ce q9 H locs hP hD hS hce hcv hcl => ?_) (fun n0 H locs hP hD hS => ?_)
  · replace h := az_neg n0 h
    by_cases c0 : o.1 = 1
    · replace h := az_pos c0 h
      rw [c0] at hcl
      refine vx_catch (E := "java/lang/IndexOutOfBoundsException") (name := "java/lang/IndexOutOfBoundsException") hown [] (⟨0, 9, 12, 19⟩ : ExceptionTableEntry) [] (htab.trans rfl) (fun z hz => absurd hz List.not_mem_nil) rfl (by decide) (hts _ (List.mem_of_getElem? (i := 1) rfl)) (va_Nw.use rfl (hcx.2.1 1)) hce hcv hcl ?_
      refine lv_astore_n (lv' := [(3, .ref (q9)), (0, .ref (ax 0)), (1, .int x1), (2, .ref (ob))]) hx hb dL_addressOf_12 rfl hl (by decide) rfl (fun ls hl => ?_)
      refine lv_iconst (v := (1 : Int32)) hx hb dL_addressOf_13 (by decide) ?_
      rw [← Option.some.inj h]
      exact az_iretT hx hb hr hlocks hK hP hD hS dL_addressOf_14 (Nat.le_of_ble_eq_true rfl) (Nat.le_of_ble_eq_true rfl)
    · replace h := az_neg c0 h
      exact az_non h
  · replace h := az_pos n0 h
    refine lv_i2l (v := (o.2).toInt64) hx hb dL_addressOf_7 rfl ?_
    refine va_last (D := g.1) (f := f) hx hb hK hP hD hS 0 2 rfl rfl (az_vin (by decide +kernel)) dL_addressOf_8 (fun H locs hP hD hS => ?_)
    have hP : va_P g.1 az_cl (az_ou g ob (vp_updL f 0 (o.2).toInt64) :: az_wF g ax an au aw V T S hs) _ := hP
    have hD : va_D A (az_ou g ob (vp_updL f 0 (o.2).toInt64) :: az_wF g ax an au aw V T S hs) := hD
    refine lv_goto (tgt := 15) hx hb dL_addressOf_9 (by decide) ?_
    refine lv_iconst (v := (0 : Int32)) hx hb dL_addressOf_15 (by decide) ?_
    rw [← Option.some.inj h]
    exact az_iretT hx hb hr hlocks hK hP hD hS dL_addressOf_16 (Nat.le_of_ble_eq_true rfl) (Nat.le_of_ble_eq_true rfl)

def FL_versions (V T : az_St) (S : Nat → az_St) (hs : Nat → Int32) (f : Nat → Int64) (x1 : Int32) : Option (Int32 × (Nat → Int64) × az_St × az_St × (Nat → az_St) × (Nat → Int32)) := (FX6_versions V x1).bind (fun o => if o.1 = 0 then some ((0 : Int32), vp_updL f 0 (o.2).toInt64, V, T, S, hs) else (if o.1 = 1 then some ((1 : Int32), f, V, T, S, hs) else none))
set_option maxHeartbeats 8000000 in
set_option maxRecDepth 100000 in
theorem kL_versions (l : Launch) (hst : l.stackTraces = false) (g : az_G) (sa : Nat → Nat) (ax an au : Nat → Nat) (aw : Nat → Nat → Nat) (ob : Nat) (V T : az_St) (S : Nat → az_St) (hs : Nat → Int32) (f : Nat → Int64) (x1 : Int32) (u : Int32 × (Nat → Int64) × az_St × az_St × (Nat → az_St) × (Nat → Int32)) (h : FL_versions V T S hs f x1 = some u) : az_TI l yL_versions wsL_versions ({ frames := 9, cells := 1, slots := 6, locals := 161 } : Room) [.ref (ax 0), .int x1, .ref ob] g sa (az_ou g ob f :: az_wF g ax an au aw V T S hs) 0 u.1 (az_ou g ob u.2.1 :: az_wF g ax an au aw u.2.2.1 u.2.2.2.1 u.2.2.2.2.1 u.2.2.2.2.2) 1 := by
  refine az_bodyTW (cc := cL_versions) (maxL := 4) (ret := (some .int)) (mc := 1) (ms := 6) (Qc := fun A => az_QTI g (az_ou g ob u.2.1 :: az_wF g ax an au aw u.2.2.1 u.2.2.2.1 u.2.2.2.2.1 u.2.2.2.2.2) 0 u.1 A) (XC := fun A => az_XT g (az_ou g ob u.2.1 :: az_wF g ax an au aw u.2.2.1 u.2.2.2.1 u.2.2.2.2.1 u.2.2.2.2.2) 0 A) (by decide +kernel) rfl (Nat.le_of_ble_eq_true rfl) ?_
  intro p e s m args below meth c A hx hb hr hts hown hml hlocks htab hcx hA hK hP hD hS ls hl
  have hl : lv_has ls 4 [(0, .ref (ax 0)), (1, .int x1), (2, .ref (ob))] := hl
  unfold FL_versions at h
  obtain ⟨o, hc9, h⟩ := az_bnd h
  refine lv_aload_n hx hb dL_versions_0 rfl (lv_at hl 2 rfl) ?_
  refine lv_iconst (v := (0 : Int32)) hx hb dL_versions_1 (by decide) ?_
  refine lv_aload_n hx hb dL_versions_2 rfl (lv_at hl 0 rfl) ?_
  refine lv_iload_n hx hb dL_versions_3 rfl (lv_at hl 1 rfl) ?_
  refine az_callPTi (wr := [az_ou g ob f]) (w2 := az_ou g ob f :: az_wF g ax an au aw V T S hs) (As := [.int x1]) (rest := [.int (0 : Int32), .ref (ob)]) ⟨hx, hb, hml, hown, hts⟩ hl.1 (kX6_versions l hst g sa ax an au (az_cV g au T ++ az_cH g ax aw S hs) V x1 o hc9) (cwV 1 hts gL_versions_X6_versions rfl rfl rfl (by decide +kernel) ⟨(Nat.le_of_ble_eq_true rfl), (Nat.le_of_ble_eq_true rfl)⟩) rfl hK hcx hP hD hS hA (List.perm_append_singleton _ _).symm (List.perm_append_singleton _ _) 0 rfl rfl rfl (Nat.le_of_ble_eq_true rfl) dL_versions_4 ⟨(Nat.le_of_ble_eq_true rfl), (Nat.le_of_ble_eq_true rfl)⟩ rfl (fun n0 ce q9 H locs hP hD hS hce hcv hcl => ?_) (fun n0 H locs hP hD hS => ?_)
  · replace h := az_neg n0 h
    by_cases c0 : o.1 = 1
    · replace h := az_pos c0 h
      rw [c0] at hcl
      refine vx_catch (E := "java/lang/IndexOutOfBoundsException") (name := "java/lang/IndexOutOfBoundsException") hown [] (⟨0, 9, 12, 19⟩ : ExceptionTableEntry) [] (htab.trans rfl) (fun z hz => absurd hz List.not_mem_nil) rfl (by decide) (hts _ (List.mem_of_getElem? (i := 1) rfl)) (va_Nw.use rfl (hcx.2.1 1)) hce hcv hcl ?_
      refine lv_astore_n (lv' := [(3, .ref (q9)), (0, .ref (ax 0)), (1, .int x1), (2, .ref (ob))]) hx hb dL_versions_12 rfl hl (by decide) rfl (fun ls hl => ?_)
      refine lv_iconst (v := (1 : Int32)) hx hb dL_versions_13 (by decide) ?_
      rw [← Option.some.inj h]
      exact az_iretT hx hb hr hlocks hK hP hD hS dL_versions_14 (Nat.le_of_ble_eq_true rfl) (Nat.le_of_ble_eq_true rfl)
    · replace h := az_neg c0 h
      exact az_non h
  · replace h := az_pos n0 h
    refine lv_i2l (v := (o.2).toInt64) hx hb dL_versions_7 rfl ?_
    refine va_last (D := g.1) (f := f) hx hb hK hP hD hS 0 2 rfl rfl (az_vin (by decide +kernel)) dL_versions_8 (fun H locs hP hD hS => ?_)
    have hP : va_P g.1 az_cl (az_ou g ob (vp_updL f 0 (o.2).toInt64) :: az_wF g ax an au aw V T S hs) _ := hP
    have hD : va_D A (az_ou g ob (vp_updL f 0 (o.2).toInt64) :: az_wF g ax an au aw V T S hs) := hD
    refine lv_goto (tgt := 15) hx hb dL_versions_9 (by decide) ?_
    refine lv_iconst (v := (0 : Int32)) hx hb dL_versions_15 (by decide) ?_
    rw [← Option.some.inj h]
    exact az_iretT hx hb hr hlocks hK hP hD hS dL_versions_16 (Nat.le_of_ble_eq_true rfl) (Nat.le_of_ble_eq_true rfl)

def FL_version (V T : az_St) (S : Nat → az_St) (hs : Nat → Int32) (f : Nat → Int64) (x1 : Int32) (x2 : Int32) : Option (Int32 × (Nat → Int64) × az_St × az_St × (Nat → az_St) × (Nat → Int32)) := (FX6_version V x1 x2).bind (fun o => if o.1 = 0 then some ((0 : Int32), vp_updL f 0 (o.2).toInt64, V, T, S, hs) else (if o.1 = 1 then some ((1 : Int32), f, V, T, S, hs) else none))
set_option maxHeartbeats 8000000 in
set_option maxRecDepth 100000 in
theorem kL_version (l : Launch) (hst : l.stackTraces = false) (g : az_G) (sa : Nat → Nat) (ax an au : Nat → Nat) (aw : Nat → Nat → Nat) (ob : Nat) (V T : az_St) (S : Nat → az_St) (hs : Nat → Int32) (f : Nat → Int64) (x1 : Int32) (x2 : Int32) (u : Int32 × (Nat → Int64) × az_St × az_St × (Nat → az_St) × (Nat → Int32)) (h : FL_version V T S hs f x1 x2 = some u) : az_TI l yL_version wsL_version ({ frames := 9, cells := 2, slots := 12, locals := 163 } : Room) [.ref (ax 0), .int x1, .int x2, .ref ob] g sa (az_ou g ob f :: az_wF g ax an au aw V T S hs) 0 u.1 (az_ou g ob u.2.1 :: az_wF g ax an au aw u.2.2.1 u.2.2.2.1 u.2.2.2.2.1 u.2.2.2.2.2) 2 := by
  refine az_bodyTW (cc := cL_version) (maxL := 5) (ret := (some .int)) (mc := 2) (ms := 12) (Qc := fun A => az_QTI g (az_ou g ob u.2.1 :: az_wF g ax an au aw u.2.2.1 u.2.2.2.1 u.2.2.2.2.1 u.2.2.2.2.2) 0 u.1 A) (XC := fun A => az_XT g (az_ou g ob u.2.1 :: az_wF g ax an au aw u.2.2.1 u.2.2.2.1 u.2.2.2.2.1 u.2.2.2.2.2) 0 A) (by decide +kernel) rfl (Nat.le_of_ble_eq_true rfl) ?_
  intro p e s m args below meth c A hx hb hr hts hown hml hlocks htab hcx hA hK hP hD hS ls hl
  have hl : lv_has ls 5 [(0, .ref (ax 0)), (1, .int x1), (2, .int x2), (3, .ref (ob))] := hl
  unfold FL_version at h
  obtain ⟨o, hc9, h⟩ := az_bnd h
  refine lv_aload_n hx hb dL_version_0 rfl (lv_at hl 3 rfl) ?_
  refine lv_iconst (v := (0 : Int32)) hx hb dL_version_1 (by decide) ?_
  refine lv_aload_n hx hb dL_version_2 rfl (lv_at hl 0 rfl) ?_
  refine lv_iload_n hx hb dL_version_3 rfl (lv_at hl 1 rfl) ?_
  refine lv_iload_n hx hb dL_version_4 rfl (lv_at hl 2 rfl) ?_
  refine az_callPTi (wr := [az_ou g ob f]) (w2 := az_ou g ob f :: az_wF g ax an au aw V T S hs) (As := [.int x1, .int x2]) (rest := [.int (0 : Int32), .ref (ob)]) ⟨hx, hb, hml, hown, hts⟩ hl.1 (kX6_version l hst g sa ax an au (az_cV g au T ++ az_cH g ax aw S hs) V x1 x2 o hc9) (cwV 2 hts gL_version_X6_version rfl rfl rfl (by decide +kernel) ⟨(Nat.le_of_ble_eq_true rfl), (Nat.le_of_ble_eq_true rfl)⟩) rfl hK hcx hP hD hS hA (List.perm_append_singleton _ _).symm (List.perm_append_singleton _ _) 0 rfl rfl rfl (Nat.le_of_ble_eq_true rfl) dL_version_5 ⟨(Nat.le_of_ble_eq_true rfl), (Nat.le_of_ble_eq_true rfl)⟩ rfl (fun n0 ce q9 H locs hP hD hS hce hcv hcl => ?_) (fun n0 H locs hP hD hS => ?_)
  · replace h := az_neg n0 h
    by_cases c0 : o.1 = 1
    · replace h := az_pos c0 h
      rw [c0] at hcl
      refine vx_catch (E := "java/lang/IndexOutOfBoundsException") (name := "java/lang/IndexOutOfBoundsException") hown [] (⟨0, 10, 13, 19⟩ : ExceptionTableEntry) [] (htab.trans rfl) (fun z hz => absurd hz List.not_mem_nil) rfl (by decide) (hts _ (List.mem_of_getElem? (i := 1) rfl)) (va_Nw.use rfl (hcx.2.1 1)) hce hcv hcl ?_
      refine lv_astore (lv' := [(4, .ref (q9)), (0, .ref (ax 0)), (1, .int x1), (2, .int x2), (3, .ref (ob))]) hx hb dL_version_13 hl (by decide) rfl (fun ls hl => ?_)
      refine lv_iconst (v := (1 : Int32)) hx hb dL_version_15 (by decide) ?_
      rw [← Option.some.inj h]
      exact az_iretT hx hb hr hlocks hK hP hD hS dL_version_16 (Nat.le_of_ble_eq_true rfl) (Nat.le_of_ble_eq_true rfl)
    · replace h := az_neg c0 h
      exact az_non h
  · replace h := az_pos n0 h
    refine lv_i2l (v := (o.2).toInt64) hx hb dL_version_8 rfl ?_
    refine va_last (D := g.1) (f := f) hx hb hK hP hD hS 0 2 rfl rfl (az_vin (by decide +kernel)) dL_version_9 (fun H locs hP hD hS => ?_)
    have hP : va_P g.1 az_cl (az_ou g ob (vp_updL f 0 (o.2).toInt64) :: az_wF g ax an au aw V T S hs) _ := hP
    have hD : va_D A (az_ou g ob (vp_updL f 0 (o.2).toInt64) :: az_wF g ax an au aw V T S hs) := hD
    refine lv_goto (tgt := 17) hx hb dL_version_10 (by decide) ?_
    refine lv_iconst (v := (0 : Int32)) hx hb dL_version_17 (by decide) ?_
    rw [← Option.some.inj h]
    exact az_iretT hx hb hr hlocks hK hP hD hS dL_version_18 (Nat.le_of_ble_eq_true rfl) (Nat.le_of_ble_eq_true rfl)

def FL_takeSnapshot (V T : az_St) (S : Nat → az_St) (hs : Nat → Int32) (f : Nat → Int64) (x1 : Int32) : Option (Int32 × (Nat → Int64) × az_St × az_St × (Nat → az_St) × (Nat → Int32)) := (FX6_takeSnapshot V T S hs x1).bind (fun o => if o.1 = 0 then some ((0 : Int32), vp_updL f 0 (o.2.1).toInt64, (va_up (va_up V 13 o.2.2.2.1) 14 o.2.2.2.2.1), T, o.2.2.1, o.2.2.2.2.2) else (if o.1 = 1 then some ((1 : Int32), f, (va_up (va_up V 13 o.2.2.2.1) 14 o.2.2.2.2.1), T, o.2.2.1, o.2.2.2.2.2) else if o.1 = 3 then some ((2 : Int32), f, (va_up (va_up V 13 o.2.2.2.1) 14 o.2.2.2.2.1), T, o.2.2.1, o.2.2.2.2.2) else none))
set_option maxHeartbeats 8000000 in
set_option maxRecDepth 100000 in
theorem kL_takeSnapshot (l : Launch) (hst : l.stackTraces = false) (g : az_G) (sa : Nat → Nat) (ax an au : Nat → Nat) (aw : Nat → Nat → Nat) (ob : Nat) (V T : az_St) (S : Nat → az_St) (hs : Nat → Int32) (f : Nat → Int64) (x1 : Int32) (u : Int32 × (Nat → Int64) × az_St × az_St × (Nat → az_St) × (Nat → Int32)) (h : FL_takeSnapshot V T S hs f x1 = some u) : az_TI l yL_takeSnapshot wsL_takeSnapshot ({ frames := 9, cells := 2, slots := 12, locals := 185 } : Room) [.ref (ax 0), .int x1, .ref ob] g sa (az_ou g ob f :: az_wF g ax an au aw V T S hs) 0 u.1 (az_ou g ob u.2.1 :: az_wF g ax an au aw u.2.2.1 u.2.2.2.1 u.2.2.2.2.1 u.2.2.2.2.2) 2 := by
  refine az_bodyTW (cc := cL_takeSnapshot) (maxL := 4) (ret := (some .int)) (mc := 2) (ms := 12) (Qc := fun A => az_QTI g (az_ou g ob u.2.1 :: az_wF g ax an au aw u.2.2.1 u.2.2.2.1 u.2.2.2.2.1 u.2.2.2.2.2) 0 u.1 A) (XC := fun A => az_XT g (az_ou g ob u.2.1 :: az_wF g ax an au aw u.2.2.1 u.2.2.2.1 u.2.2.2.2.1 u.2.2.2.2.2) 0 A) (by decide +kernel) rfl (Nat.le_of_ble_eq_true rfl) ?_
  intro p e s m args below meth c A hx hb hr hts hown hml hlocks htab hcx hA hK hP hD hS ls hl
  have hl : lv_has ls 4 [(0, .ref (ax 0)), (1, .int x1), (2, .ref (ob))] := hl
  unfold FL_takeSnapshot at h
  obtain ⟨o, hc9, h⟩ := az_bnd h
  refine lv_aload_n hx hb dL_takeSnapshot_0 rfl (lv_at hl 2 rfl) ?_
  refine lv_iconst (v := (0 : Int32)) hx hb dL_takeSnapshot_1 (by decide) ?_
  refine lv_aload_n hx hb dL_takeSnapshot_2 rfl (lv_at hl 0 rfl) ?_
  refine lv_iload_n hx hb dL_takeSnapshot_3 rfl (lv_at hl 1 rfl) ?_
  refine az_callPTi (wr := [az_ou g ob f]) (w2 := az_ou g ob f :: az_wF g ax an au aw (va_up (va_up V 13 o.2.2.2.1) 14 o.2.2.2.2.1) T o.2.2.1 o.2.2.2.2.2) (As := [.int x1]) (rest := [.int (0 : Int32), .ref (ob)]) ⟨hx, hb, hml, hown, hts⟩ hl.1 (kX6_takeSnapshot l hst g sa ax an au aw V T S hs x1 o hc9) (cwV 1 hts gL_takeSnapshot_X6_takeSnapshot rfl rfl rfl (by decide +kernel) ⟨(Nat.le_of_ble_eq_true rfl), (Nat.le_of_ble_eq_true rfl)⟩) rfl hK hcx hP hD hS hA (List.perm_append_singleton _ _).symm (List.perm_append_singleton _ _) 0 rfl rfl rfl (Nat.le_of_ble_eq_true rfl) dL_takeSnapshot_4 ⟨(Nat.le_of_ble_eq_true rfl), (Nat.le_of_ble_eq_true rfl)⟩ rfl (fun n0 ce q9 H locs hP hD hS hce hcv hcl => ?_) (fun n0 H locs hP hD hS => ?_)
  · replace h := az_neg n0 h
    by_cases c0 : o.1 = 1
    · replace h := az_pos c0 h
      rw [c0] at hcl
      refine vx_catch (E := "java/lang/IndexOutOfBoundsException") (name := "java/lang/IndexOutOfBoundsException") hown [] (⟨0, 9, 12, 19⟩ : ExceptionTableEntry) [(⟨0, 9, 15, 21⟩ : ExceptionTableEntry)] (htab.trans rfl) (fun z hz => absurd hz List.not_mem_nil) rfl (by decide) (hts _ (List.mem_of_getElem? (i := 1) rfl)) (va_Nw.use rfl (hcx.2.1 1)) hce hcv hcl ?_
      refine lv_astore_n (lv' := [(3, .ref (q9)), (0, .ref (ax 0)), (1, .int x1), (2, .ref (ob))]) hx hb dL_takeSnapshot_12 rfl hl (by decide) rfl (fun ls hl => ?_)
      refine lv_iconst (v := (1 : Int32)) hx hb dL_takeSnapshot_13 (by decide) ?_
      rw [← Option.some.inj h]
      exact az_iretT hx hb hr hlocks hK hP hD hS dL_takeSnapshot_14 (Nat.le_of_ble_eq_true rfl) (Nat.le_of_ble_eq_true rfl)
    · replace h := az_neg c0 h
      by_cases c1 : o.1 = 3
      · replace h := az_pos c1 h
        rw [c1] at hcl
        refine vx_catch (E := "java/lang/IllegalStateException") (name := "java/lang/IllegalStateException") hown [(⟨0, 9, 12, 19⟩ : ExceptionTableEntry)] (⟨0, 9, 15, 21⟩ : ExceptionTableEntry) [] (htab.trans rfl) (fun z hz => by simp only [List.mem_cons, List.not_mem_nil, or_false] at hz; rcases hz with rfl; · exact Or.inr ⟨by decide, "java/lang/IndexOutOfBoundsException", (hts _ (List.mem_of_getElem? (i := 1) rfl)), hcx.2.2.1 3 1 (by decide +kernel)⟩) rfl (by decide) (hts _ (List.mem_of_getElem? (i := 2) rfl)) (va_Nw.use rfl (hcx.2.1 3)) hce hcv hcl ?_
        refine lv_astore_n (lv' := [(3, .ref (q9)), (0, .ref (ax 0)), (1, .int x1), (2, .ref (ob))]) hx hb dL_takeSnapshot_15 rfl hl (by decide) rfl (fun ls hl => ?_)
        refine lv_iconst (v := (2 : Int32)) hx hb dL_takeSnapshot_16 (by decide) ?_
        rw [← Option.some.inj h]
        exact az_iretT hx hb hr hlocks hK hP hD hS dL_takeSnapshot_17 (Nat.le_of_ble_eq_true rfl) (Nat.le_of_ble_eq_true rfl)
      · replace h := az_neg c1 h
        exact az_non h
  · replace h := az_pos n0 h
    refine lv_i2l (v := (o.2.1).toInt64) hx hb dL_takeSnapshot_7 rfl ?_
    refine va_last (D := g.1) (f := f) hx hb hK hP hD hS 0 2 rfl rfl (az_vin (by decide +kernel)) dL_takeSnapshot_8 (fun H locs hP hD hS => ?_)
    have hP : va_P g.1 az_cl (az_ou g ob (vp_updL f 0 (o.2.1).toInt64) :: az_wF g ax an au aw (va_up (va_up V 13 o.2.2.2.1) 14 o.2.2.2.2.1) T o.2.2.1 o.2.2.2.2.2) _ := hP
    have hD : va_D A (az_ou g ob (vp_updL f 0 (o.2.1).toInt64) :: az_wF g ax an au aw (va_up (va_up V 13 o.2.2.2.1) 14 o.2.2.2.2.1) T o.2.2.1 o.2.2.2.2.2) := hD
    refine lv_goto (tgt := 18) hx hb dL_takeSnapshot_9 (by decide) ?_
    refine lv_iconst (v := (0 : Int32)) hx hb dL_takeSnapshot_18 (by decide) ?_
    rw [← Option.some.inj h]
    exact az_iretT hx hb hr hlocks hK hP hD hS dL_takeSnapshot_19 (Nat.le_of_ble_eq_true rfl) (Nat.le_of_ble_eq_true rfl)

def FL_dropSnapshot (V T : az_St) (S : Nat → az_St) (hs : Nat → Int32) (f : Nat → Int64) (x1 : Int32) : Option (Int32 × (Nat → Int64) × az_St × az_St × (Nat → az_St) × (Nat → Int32)) := (FX6_dropSnapshot V T S hs x1).bind (fun o => if o.1 = 0 then some ((0 : Int32), vp_updL f 0 (o.2.1).toInt64, (va_up (va_up (va_up (va_up V 5 o.2.2.2.1) 9 o.2.2.2.2.1) 13 o.2.2.2.2.2.1) 14 o.2.2.2.2.2.2.1), T, o.2.2.1, o.2.2.2.2.2.2.2) else (if o.1 = 1 then some ((1 : Int32), f, (va_up (va_up (va_up (va_up V 5 o.2.2.2.1) 9 o.2.2.2.2.1) 13 o.2.2.2.2.2.1) 14 o.2.2.2.2.2.2.1), T, o.2.2.1, o.2.2.2.2.2.2.2) else if o.1 = 3 then some ((2 : Int32), f, (va_up (va_up (va_up (va_up V 5 o.2.2.2.1) 9 o.2.2.2.2.1) 13 o.2.2.2.2.2.1) 14 o.2.2.2.2.2.2.1), T, o.2.2.1, o.2.2.2.2.2.2.2) else none))
set_option maxHeartbeats 8000000 in
set_option maxRecDepth 100000 in
theorem kL_dropSnapshot (l : Launch) (hst : l.stackTraces = false) (g : az_G) (sa : Nat → Nat) (ax an au : Nat → Nat) (aw : Nat → Nat → Nat) (ob : Nat) (V T : az_St) (S : Nat → az_St) (hs : Nat → Int32) (f : Nat → Int64) (x1 : Int32) (u : Int32 × (Nat → Int64) × az_St × az_St × (Nat → az_St) × (Nat → Int32)) (h : FL_dropSnapshot V T S hs f x1 = some u) : az_TI l yL_dropSnapshot wsL_dropSnapshot ({ frames := 10, cells := 2, slots := 12, locals := 185 } : Room) [.ref (ax 0), .int x1, .ref ob] g sa (az_ou g ob f :: az_wF g ax an au aw V T S hs) 0 u.1 (az_ou g ob u.2.1 :: az_wF g ax an au aw u.2.2.1 u.2.2.2.1 u.2.2.2.2.1 u.2.2.2.2.2) 2 := by
  refine az_bodyTW (cc := cL_dropSnapshot) (maxL := 4) (ret := (some .int)) (mc := 2) (ms := 12) (Qc := fun A => az_QTI g (az_ou g ob u.2.1 :: az_wF g ax an au aw u.2.2.1 u.2.2.2.1 u.2.2.2.2.1 u.2.2.2.2.2) 0 u.1 A) (XC := fun A => az_XT g (az_ou g ob u.2.1 :: az_wF g ax an au aw u.2.2.1 u.2.2.2.1 u.2.2.2.2.1 u.2.2.2.2.2) 0 A) (by decide +kernel) rfl (Nat.le_of_ble_eq_true rfl) ?_
  intro p e s m args below meth c A hx hb hr hts hown hml hlocks htab hcx hA hK hP hD hS ls hl
  have hl : lv_has ls 4 [(0, .ref (ax 0)), (1, .int x1), (2, .ref (ob))] := hl
  unfold FL_dropSnapshot at h
  obtain ⟨o, hc9, h⟩ := az_bnd h
  refine lv_aload_n hx hb dL_dropSnapshot_0 rfl (lv_at hl 2 rfl) ?_
  refine lv_iconst (v := (0 : Int32)) hx hb dL_dropSnapshot_1 (by decide) ?_
  refine lv_aload_n hx hb dL_dropSnapshot_2 rfl (lv_at hl 0 rfl) ?_
  refine lv_iload_n hx hb dL_dropSnapshot_3 rfl (lv_at hl 1 rfl) ?_
  refine az_callPTi (wr := [az_ou g ob f]) (w2 := az_ou g ob f :: az_wF g ax an au aw (va_up (va_up (va_up (va_up V 5 o.2.2.2.1) 9 o.2.2.2.2.1) 13 o.2.2.2.2.2.1) 14 o.2.2.2.2.2.2.1) T o.2.2.1 o.2.2.2.2.2.2.2) (As := [.int x1]) (rest := [.int (0 : Int32), .ref (ob)]) ⟨hx, hb, hml, hown, hts⟩ hl.1 (kX6_dropSnapshot l hst g sa ax an au aw V T S hs x1 o hc9) (cwV 1 hts gL_dropSnapshot_X6_dropSnapshot rfl rfl rfl (by decide +kernel) ⟨(Nat.le_of_ble_eq_true rfl), (Nat.le_of_ble_eq_true rfl)⟩) rfl hK hcx hP hD hS hA (List.perm_append_singleton _ _).symm (List.perm_append_singleton _ _) 0 rfl rfl rfl (Nat.le_of_ble_eq_true rfl) dL_dropSnapshot_4 ⟨(Nat.le_of_ble_eq_true rfl), (Nat.le_of_ble_eq_true rfl)⟩ rfl (fun n0 ce q9 H locs hP hD hS hce hcv hcl => ?_) (fun n0 H locs hP hD hS => ?_)
  · replace h := az_neg n0 h
    by_cases c0 : o.1 = 1
    · replace h := az_pos c0 h
      rw [c0] at hcl
      refine vx_catch (E := "java/lang/IndexOutOfBoundsException") (name := "java/lang/IndexOutOfBoundsException") hown [] (⟨0, 9, 12, 19⟩ : ExceptionTableEntry) [(⟨0, 9, 15, 21⟩ : ExceptionTableEntry)] (htab.trans rfl) (fun z hz => absurd hz List.not_mem_nil) rfl (by decide) (hts _ (List.mem_of_getElem? (i := 1) rfl)) (va_Nw.use rfl (hcx.2.1 1)) hce hcv hcl ?_
      refine lv_astore_n (lv' := [(3, .ref (q9)), (0, .ref (ax 0)), (1, .int x1), (2, .ref (ob))]) hx hb dL_dropSnapshot_12 rfl hl (by decide) rfl (fun ls hl => ?_)
      refine lv_iconst (v := (1 : Int32)) hx hb dL_dropSnapshot_13 (by decide) ?_
      rw [← Option.some.inj h]
      exact az_iretT hx hb hr hlocks hK hP hD hS dL_dropSnapshot_14 (Nat.le_of_ble_eq_true rfl) (Nat.le_of_ble_eq_true rfl)
    · replace h := az_neg c0 h
      by_cases c1 : o.1 = 3
      · replace h := az_pos c1 h
        rw [c1] at hcl
        refine vx_catch (E := "java/lang/IllegalStateException") (name := "java/lang/IllegalStateException") hown [(⟨0, 9, 12, 19⟩ : ExceptionTableEntry)] (⟨0, 9, 15, 21⟩ : ExceptionTableEntry) [] (htab.trans rfl) (fun z hz => by simp only [List.mem_cons, List.not_mem_nil, or_false] at hz; rcases hz with rfl; · exact Or.inr ⟨by decide, "java/lang/IndexOutOfBoundsException", (hts _ (List.mem_of_getElem? (i := 1) rfl)), hcx.2.2.1 3 1 (by decide +kernel)⟩) rfl (by decide) (hts _ (List.mem_of_getElem? (i := 2) rfl)) (va_Nw.use rfl (hcx.2.1 3)) hce hcv hcl ?_
        refine lv_astore_n (lv' := [(3, .ref (q9)), (0, .ref (ax 0)), (1, .int x1), (2, .ref (ob))]) hx hb dL_dropSnapshot_15 rfl hl (by decide) rfl (fun ls hl => ?_)
        refine lv_iconst (v := (2 : Int32)) hx hb dL_dropSnapshot_16 (by decide) ?_
        rw [← Option.some.inj h]
        exact az_iretT hx hb hr hlocks hK hP hD hS dL_dropSnapshot_17 (Nat.le_of_ble_eq_true rfl) (Nat.le_of_ble_eq_true rfl)
      · replace h := az_neg c1 h
        exact az_non h
  · replace h := az_pos n0 h
    refine lv_i2l (v := (o.2.1).toInt64) hx hb dL_dropSnapshot_7 rfl ?_
    refine va_last (D := g.1) (f := f) hx hb hK hP hD hS 0 2 rfl rfl (az_vin (by decide +kernel)) dL_dropSnapshot_8 (fun H locs hP hD hS => ?_)
    have hP : va_P g.1 az_cl (az_ou g ob (vp_updL f 0 (o.2.1).toInt64) :: az_wF g ax an au aw (va_up (va_up (va_up (va_up V 5 o.2.2.2.1) 9 o.2.2.2.2.1) 13 o.2.2.2.2.2.1) 14 o.2.2.2.2.2.2.1) T o.2.2.1 o.2.2.2.2.2.2.2) _ := hP
    have hD : va_D A (az_ou g ob (vp_updL f 0 (o.2.1).toInt64) :: az_wF g ax an au aw (va_up (va_up (va_up (va_up V 5 o.2.2.2.1) 9 o.2.2.2.2.1) 13 o.2.2.2.2.2.1) 14 o.2.2.2.2.2.2.1) T o.2.2.1 o.2.2.2.2.2.2.2) := hD
    refine lv_goto (tgt := 18) hx hb dL_dropSnapshot_9 (by decide) ?_
    refine lv_iconst (v := (0 : Int32)) hx hb dL_dropSnapshot_18 (by decide) ?_
    rw [← Option.some.inj h]
    exact az_iretT hx hb hr hlocks hK hP hD hS dL_dropSnapshot_19 (Nat.le_of_ble_eq_true rfl) (Nat.le_of_ble_eq_true rfl)

def FL_rollBack (V T : az_St) (S : Nat → az_St) (hs : Nat → Int32) (f : Nat → Int64) (x1 : Int32) : Option (Int32 × (Nat → Int64) × az_St × az_St × (Nat → az_St) × (Nat → Int32)) := (FX6_rollBack V T S hs x1).bind (fun o => if o.1 = 0 then some ((0 : Int32), vp_updL f 0 (o.2.1).toInt64, (va_up (va_up (va_up V 5 o.2.2.2.1) 9 o.2.2.2.2.1) 15 o.2.2.2.2.2.1), T, o.2.2.1, o.2.2.2.2.2.2) else (if o.1 = 1 then some ((1 : Int32), f, (va_up (va_up (va_up V 5 o.2.2.2.1) 9 o.2.2.2.2.1) 15 o.2.2.2.2.2.1), T, o.2.2.1, o.2.2.2.2.2.2) else if o.1 = 3 then some ((2 : Int32), f, (va_up (va_up (va_up V 5 o.2.2.2.1) 9 o.2.2.2.2.1) 15 o.2.2.2.2.2.1), T, o.2.2.1, o.2.2.2.2.2.2) else none))
set_option maxHeartbeats 8000000 in
set_option maxRecDepth 100000 in
theorem kL_rollBack (l : Launch) (hst : l.stackTraces = false) (g : az_G) (sa : Nat → Nat) (ax an au : Nat → Nat) (aw : Nat → Nat → Nat) (ob : Nat) (V T : az_St) (S : Nat → az_St) (hs : Nat → Int32) (f : Nat → Int64) (x1 : Int32) (u : Int32 × (Nat → Int64) × az_St × az_St × (Nat → az_St) × (Nat → Int32)) (h : FL_rollBack V T S hs f x1 = some u) : az_TI l yL_rollBack wsL_rollBack ({ frames := 10, cells := 2, slots := 12, locals := 185 } : Room) [.ref (ax 0), .int x1, .ref ob] g sa (az_ou g ob f :: az_wF g ax an au aw V T S hs) 0 u.1 (az_ou g ob u.2.1 :: az_wF g ax an au aw u.2.2.1 u.2.2.2.1 u.2.2.2.2.1 u.2.2.2.2.2) 2 := by
  refine az_bodyTW (cc := cL_rollBack) (maxL := 4) (ret := (some .int)) (mc := 2) (ms := 12) (Qc := fun A => az_QTI g (az_ou g ob u.2.1 :: az_wF g ax an au aw u.2.2.1 u.2.2.2.1 u.2.2.2.2.1 u.2.2.2.2.2) 0 u.1 A) (XC := fun A => az_XT g (az_ou g ob u.2.1 :: az_wF g ax an au aw u.2.2.1 u.2.2.2.1 u.2.2.2.2.1 u.2.2.2.2.2) 0 A) (by decide +kernel) rfl (Nat.le_of_ble_eq_true rfl) ?_
  intro p e s m args below meth c A hx hb hr hts hown hml hlocks htab hcx hA hK hP hD hS ls hl
  have hl : lv_has ls 4 [(0, .ref (ax 0)), (1, .int x1), (2, .ref (ob))] := hl
  unfold FL_rollBack at h
  obtain ⟨o, hc9, h⟩ := az_bnd h
  refine lv_aload_n hx hb dL_rollBack_0 rfl (lv_at hl 2 rfl) ?_
  refine lv_iconst (v := (0 : Int32)) hx hb dL_rollBack_1 (by decide) ?_
  refine lv_aload_n hx hb dL_rollBack_2 rfl (lv_at hl 0 rfl) ?_
  refine lv_iload_n hx hb dL_rollBack_3 rfl (lv_at hl 1 rfl) ?_
  refine az_callPTi (wr := [az_ou g ob f]) (w2 := az_ou g ob f :: az_wF g ax an au aw (va_up (va_up (va_up V 5 o.2.2.2.1) 9 o.2.2.2.2.1) 15 o.2.2.2.2.2.1) T o.2.2.1 o.2.2.2.2.2.2) (As := [.int x1]) (rest := [.int (0 : Int32), .ref (ob)]) ⟨hx, hb, hml, hown, hts⟩ hl.1 (kX6_rollBack l hst g sa ax an au aw V T S hs x1 o hc9) (cwV 1 hts gL_rollBack_X6_rollBack rfl rfl rfl (by decide +kernel) ⟨(Nat.le_of_ble_eq_true rfl), (Nat.le_of_ble_eq_true rfl)⟩) rfl hK hcx hP hD hS hA (List.perm_append_singleton _ _).symm (List.perm_append_singleton _ _) 0 rfl rfl rfl (Nat.le_of_ble_eq_true rfl) dL_rollBack_4 ⟨(Nat.le_of_ble_eq_true rfl), (Nat.le_of_ble_eq_true rfl)⟩ rfl (fun n0 ce q9 H locs hP hD hS hce hcv hcl => ?_) (fun n0 H locs hP hD hS => ?_)
  · replace h := az_neg n0 h
    by_cases c0 : o.1 = 1
    · replace h := az_pos c0 h
      rw [c0] at hcl
      refine vx_catch (E := "java/lang/IndexOutOfBoundsException") (name := "java/lang/IndexOutOfBoundsException") hown [] (⟨0, 9, 12, 19⟩ : ExceptionTableEntry) [(⟨0, 9, 15, 21⟩ : ExceptionTableEntry)] (htab.trans rfl) (fun z hz => absurd hz List.not_mem_nil) rfl (by decide) (hts _ (List.mem_of_getElem? (i := 1) rfl)) (va_Nw.use rfl (hcx.2.1 1)) hce hcv hcl ?_
      refine lv_astore_n (lv' := [(3, .ref (q9)), (0, .ref (ax 0)), (1, .int x1), (2, .ref (ob))]) hx hb dL_rollBack_12 rfl hl (by decide) rfl (fun ls hl => ?_)
      refine lv_iconst (v := (1 : Int32)) hx hb dL_rollBack_13 (by decide) ?_
      rw [← Option.some.inj h]
      exact az_iretT hx hb hr hlocks hK hP hD hS dL_rollBack_14 (Nat.le_of_ble_eq_true rfl) (Nat.le_of_ble_eq_true rfl)
    · replace h := az_neg c0 h
      by_cases c1 : o.1 = 3
      · replace h := az_pos c1 h
        rw [c1] at hcl
        refine vx_catch (E := "java/lang/IllegalStateException") (name := "java/lang/IllegalStateException") hown [(⟨0, 9, 12, 19⟩ : ExceptionTableEntry)] (⟨0, 9, 15, 21⟩ : ExceptionTableEntry) [] (htab.trans rfl) (fun z hz => by simp only [List.mem_cons, List.not_mem_nil, or_false] at hz; rcases hz with rfl; · exact Or.inr ⟨by decide, "java/lang/IndexOutOfBoundsException", (hts _ (List.mem_of_getElem? (i := 1) rfl)), hcx.2.2.1 3 1 (by decide +kernel)⟩) rfl (by decide) (hts _ (List.mem_of_getElem? (i := 2) rfl)) (va_Nw.use rfl (hcx.2.1 3)) hce hcv hcl ?_
        refine lv_astore_n (lv' := [(3, .ref (q9)), (0, .ref (ax 0)), (1, .int x1), (2, .ref (ob))]) hx hb dL_rollBack_15 rfl hl (by decide) rfl (fun ls hl => ?_)
        refine lv_iconst (v := (2 : Int32)) hx hb dL_rollBack_16 (by decide) ?_
        rw [← Option.some.inj h]
        exact az_iretT hx hb hr hlocks hK hP hD hS dL_rollBack_17 (Nat.le_of_ble_eq_true rfl) (Nat.le_of_ble_eq_true rfl)
      · replace h := az_neg c1 h
        exact az_non h
  · replace h := az_pos n0 h
    refine lv_i2l (v := (o.2.1).toInt64) hx hb dL_rollBack_7 rfl ?_
    refine va_last (D := g.1) (f := f) hx hb hK hP hD hS 0 2 rfl rfl (az_vin (by decide +kernel)) dL_rollBack_8 (fun H locs hP hD hS => ?_)
    have hP : va_P g.1 az_cl (az_ou g ob (vp_updL f 0 (o.2.1).toInt64) :: az_wF g ax an au aw (va_up (va_up (va_up V 5 o.2.2.2.1) 9 o.2.2.2.2.1) 15 o.2.2.2.2.2.1) T o.2.2.1 o.2.2.2.2.2.2) _ := hP
    have hD : va_D A (az_ou g ob (vp_updL f 0 (o.2.1).toInt64) :: az_wF g ax an au aw (va_up (va_up (va_up V 5 o.2.2.2.1) 9 o.2.2.2.2.1) 15 o.2.2.2.2.2.1) T o.2.2.1 o.2.2.2.2.2.2) := hD
    refine lv_goto (tgt := 18) hx hb dL_rollBack_9 (by decide) ?_
    refine lv_iconst (v := (0 : Int32)) hx hb dL_rollBack_18 (by decide) ?_
    rw [← Option.some.inj h]
    exact az_iretT hx hb hr hlocks hK hP hD hS dL_rollBack_19 (Nat.le_of_ble_eq_true rfl) (Nat.le_of_ble_eq_true rfl)

def FL_getFrom (V T : az_St) (S : Nat → az_St) (hs : Nat → Int32) (f : Nat → Int64) (x1 : Int32) (x2 : Int32) : Option (Int32 × (Nat → Int64) × az_St × az_St × (Nat → az_St) × (Nat → Int32)) := (FX6_getFrom V x1 x2).bind (fun o => if o.1 = 0 then some ((0 : Int32), vp_updL f 0 (o.2).toInt64, V, T, S, hs) else (if o.1 = 1 then some ((1 : Int32), f, V, T, S, hs) else if o.1 = 3 then some ((2 : Int32), f, V, T, S, hs) else if o.1 = 4 then some ((3 : Int32), f, V, T, S, hs) else none))
set_option maxHeartbeats 8000000 in
set_option maxRecDepth 100000 in
theorem kL_getFrom (l : Launch) (hst : l.stackTraces = false) (g : az_G) (sa : Nat → Nat) (ax an au : Nat → Nat) (aw : Nat → Nat → Nat) (ob : Nat) (V T : az_St) (S : Nat → az_St) (hs : Nat → Int32) (f : Nat → Int64) (x1 : Int32) (x2 : Int32) (u : Int32 × (Nat → Int64) × az_St × az_St × (Nat → az_St) × (Nat → Int32)) (h : FL_getFrom V T S hs f x1 x2 = some u) : az_TI l yL_getFrom wsL_getFrom ({ frames := 10, cells := 4, slots := 24, locals := 184 } : Room) [.ref (ax 0), .int x1, .int x2, .ref ob] g sa (az_ou g ob f :: az_wF g ax an au aw V T S hs) 0 u.1 (az_ou g ob u.2.1 :: az_wF g ax an au aw u.2.2.1 u.2.2.2.1 u.2.2.2.2.1 u.2.2.2.2.2) 4 := by
  refine az_bodyTW (cc := cL_getFrom) (maxL := 5) (ret := (some .int)) (mc := 4) (ms := 24) (Qc := fun A => az_QTI g (az_ou g ob u.2.1 :: az_wF g ax an au aw u.2.2.1 u.2.2.2.1 u.2.2.2.2.1 u.2.2.2.2.2) 0 u.1 A) (XC := fun A => az_XT g (az_ou g ob u.2.1 :: az_wF g ax an au aw u.2.2.1 u.2.2.2.1 u.2.2.2.2.1 u.2.2.2.2.2) 0 A) (by decide +kernel) rfl (Nat.le_of_ble_eq_true rfl) ?_
  intro p e s m args below meth c A hx hb hr hts hown hml hlocks htab hcx hA hK hP hD hS ls hl
  have hl : lv_has ls 5 [(0, .ref (ax 0)), (1, .int x1), (2, .int x2), (3, .ref (ob))] := hl
  unfold FL_getFrom at h
  obtain ⟨o, hc9, h⟩ := az_bnd h
  refine lv_aload_n hx hb dL_getFrom_0 rfl (lv_at hl 3 rfl) ?_
  refine lv_iconst (v := (0 : Int32)) hx hb dL_getFrom_1 (by decide) ?_
  refine lv_aload_n hx hb dL_getFrom_2 rfl (lv_at hl 0 rfl) ?_
  refine lv_iload_n hx hb dL_getFrom_3 rfl (lv_at hl 1 rfl) ?_
  refine lv_iload_n hx hb dL_getFrom_4 rfl (lv_at hl 2 rfl) ?_
  refine az_callPTi (wr := [az_ou g ob f]) (w2 := az_ou g ob f :: az_wF g ax an au aw V T S hs) (As := [.int x1, .int x2]) (rest := [.int (0 : Int32), .ref (ob)]) ⟨hx, hb, hml, hown, hts⟩ hl.1 (kX6_getFrom l hst g sa ax an au (az_cV g au T ++ az_cH g ax aw S hs) V x1 x2 o hc9) (cwV 2 hts gL_getFrom_X6_getFrom rfl rfl rfl (by decide +kernel) ⟨(Nat.le_of_ble_eq_true rfl), (Nat.le_of_ble_eq_true rfl)⟩) rfl hK hcx hP hD hS hA (List.perm_append_singleton _ _).symm (List.perm_append_singleton _ _) 0 rfl rfl rfl (Nat.le_of_ble_eq_true rfl) dL_getFrom_5 ⟨(Nat.le_of_ble_eq_true rfl), (Nat.le_of_ble_eq_true rfl)⟩ rfl (fun n0 ce q9 H locs hP hD hS hce hcv hcl => ?_) (fun n0 H locs hP hD hS => ?_)
  · replace h := az_neg n0 h
    by_cases c0 : o.1 = 1
    · replace h := az_pos c0 h
      rw [c0] at hcl
      refine vx_catch (E := "java/lang/IndexOutOfBoundsException") (name := "java/lang/IndexOutOfBoundsException") hown [] (⟨0, 10, 13, 19⟩ : ExceptionTableEntry) [(⟨0, 10, 17, 21⟩ : ExceptionTableEntry), (⟨0, 10, 21, 27⟩ : ExceptionTableEntry)] (htab.trans rfl) (fun z hz => absurd hz List.not_mem_nil) rfl (by decide) (hts _ (List.mem_of_getElem? (i := 1) rfl)) (va_Nw.use rfl (hcx.2.1 1)) hce hcv hcl ?_
      refine lv_astore (lv' := [(4, .ref (q9)), (0, .ref (ax 0)), (1, .int x1), (2, .int x2), (3, .ref (ob))]) hx hb dL_getFrom_13 hl (by decide) rfl (fun ls hl => ?_)
      refine lv_iconst (v := (1 : Int32)) hx hb dL_getFrom_15 (by decide) ?_
      rw [← Option.some.inj h]
      exact az_iretT hx hb hr hlocks hK hP hD hS dL_getFrom_16 (Nat.le_of_ble_eq_true rfl) (Nat.le_of_ble_eq_true rfl)
    · replace h := az_neg c0 h
      by_cases c1 : o.1 = 3
      · replace h := az_pos c1 h
        rw [c1] at hcl
        refine vx_catch (E := "java/lang/IllegalStateException") (name := "java/lang/IllegalStateException") hown [(⟨0, 10, 13, 19⟩ : ExceptionTableEntry)] (⟨0, 10, 17, 21⟩ : ExceptionTableEntry) [(⟨0, 10, 21, 27⟩ : ExceptionTableEntry)] (htab.trans rfl) (fun z hz => by simp only [List.mem_cons, List.not_mem_nil, or_false] at hz; rcases hz with rfl; · exact Or.inr ⟨by decide, "java/lang/IndexOutOfBoundsException", (hts _ (List.mem_of_getElem? (i := 1) rfl)), hcx.2.2.1 3 1 (by decide +kernel)⟩) rfl (by decide) (hts _ (List.mem_of_getElem? (i := 2) rfl)) (va_Nw.use rfl (hcx.2.1 3)) hce hcv hcl ?_
        refine lv_astore (lv' := [(4, .ref (q9)), (0, .ref (ax 0)), (1, .int x1), (2, .int x2), (3, .ref (ob))]) hx hb dL_getFrom_17 hl (by decide) rfl (fun ls hl => ?_)
        refine lv_iconst (v := (2 : Int32)) hx hb dL_getFrom_19 (by decide) ?_
        rw [← Option.some.inj h]
        exact az_iretT hx hb hr hlocks hK hP hD hS dL_getFrom_20 (Nat.le_of_ble_eq_true rfl) (Nat.le_of_ble_eq_true rfl)
      · replace h := az_neg c1 h
        by_cases c2 : o.1 = 4
        · replace h := az_pos c2 h
          rw [c2] at hcl
          refine vx_catch (E := "java/util/NoSuchElementException") (name := "java/util/NoSuchElementException") hown [(⟨0, 10, 13, 19⟩ : ExceptionTableEntry), (⟨0, 10, 17, 21⟩ : ExceptionTableEntry)] (⟨0, 10, 21, 27⟩ : ExceptionTableEntry) [] (htab.trans rfl) (fun z hz => by
            simp only [List.mem_cons, List.not_mem_nil, or_false] at hz
            rcases hz with rfl | rfl
            · exact Or.inr ⟨by decide, "java/lang/IndexOutOfBoundsException", (hts _ (List.mem_of_getElem? (i := 1) rfl)), hcx.2.2.1 4 1 (by decide +kernel)⟩
            · exact Or.inr ⟨by decide, "java/lang/IllegalStateException", (hts _ (List.mem_of_getElem? (i := 2) rfl)), hcx.2.2.1 4 3 (by decide +kernel)⟩) rfl (by decide) (hts _ (List.mem_of_getElem? (i := 3) rfl)) (va_Nw.use rfl (hcx.2.1 4)) hce hcv hcl ?_
          refine lv_astore (lv' := [(4, .ref (q9)), (0, .ref (ax 0)), (1, .int x1), (2, .int x2), (3, .ref (ob))]) hx hb dL_getFrom_21 hl (by decide) rfl (fun ls hl => ?_)
          refine lv_iconst (v := (3 : Int32)) hx hb dL_getFrom_23 (by decide) ?_
          rw [← Option.some.inj h]
          exact az_iretT hx hb hr hlocks hK hP hD hS dL_getFrom_24 (Nat.le_of_ble_eq_true rfl) (Nat.le_of_ble_eq_true rfl)
        · replace h := az_neg c2 h
          exact az_non h
  · replace h := az_pos n0 h
    refine lv_i2l (v := (o.2).toInt64) hx hb dL_getFrom_8 rfl ?_
    refine va_last (D := g.1) (f := f) hx hb hK hP hD hS 0 2 rfl rfl (az_vin (by decide +kernel)) dL_getFrom_9 (fun H locs hP hD hS => ?_)
    have hP : va_P g.1 az_cl (az_ou g ob (vp_updL f 0 (o.2).toInt64) :: az_wF g ax an au aw V T S hs) _ := hP
    have hD : va_D A (az_ou g ob (vp_updL f 0 (o.2).toInt64) :: az_wF g ax an au aw V T S hs) := hD
    refine lv_goto (tgt := 25) hx hb dL_getFrom_10 (by decide) ?_
    refine lv_iconst (v := (0 : Int32)) hx hb dL_getFrom_25 (by decide) ?_
    rw [← Option.some.inj h]
    exact az_iretT hx hb hr hlocks hK hP hD hS dL_getFrom_26 (Nat.le_of_ble_eq_true rfl) (Nat.le_of_ble_eq_true rfl)

def FL_changedSince (V T : az_St) (S : Nat → az_St) (hs : Nat → Int32) (f : Nat → Int64) (x1 : Int32) : Option (Int32 × (Nat → Int64) × az_St × az_St × (Nat → az_St) × (Nat → Int32)) := (FX6_changedSince V x1).bind (fun o => if o.1 = 0 then some ((0 : Int32), vp_updL f 0 (o.2).toInt64, V, T, S, hs) else (if o.1 = 1 then some ((1 : Int32), f, V, T, S, hs) else if o.1 = 3 then some ((2 : Int32), f, V, T, S, hs) else none))
set_option maxHeartbeats 8000000 in
set_option maxRecDepth 100000 in
theorem kL_changedSince (l : Launch) (hst : l.stackTraces = false) (g : az_G) (sa : Nat → Nat) (ax an au : Nat → Nat) (aw : Nat → Nat → Nat) (ob : Nat) (V T : az_St) (S : Nat → az_St) (hs : Nat → Int32) (f : Nat → Int64) (x1 : Int32) (u : Int32 × (Nat → Int64) × az_St × az_St × (Nat → az_St) × (Nat → Int32)) (h : FL_changedSince V T S hs f x1 = some u) : az_TI l yL_changedSince wsL_changedSince ({ frames := 10, cells := 2, slots := 12, locals := 184 } : Room) [.ref (ax 0), .int x1, .ref ob] g sa (az_ou g ob f :: az_wF g ax an au aw V T S hs) 0 u.1 (az_ou g ob u.2.1 :: az_wF g ax an au aw u.2.2.1 u.2.2.2.1 u.2.2.2.2.1 u.2.2.2.2.2) 2 := by
  refine az_bodyTW (cc := cL_changedSince) (maxL := 4) (ret := (some .int)) (mc := 2) (ms := 12) (Qc := fun A => az_QTI g (az_ou g ob u.2.1 :: az_wF g ax an au aw u.2.2.1 u.2.2.2.1 u.2.2.2.2.1 u.2.2.2.2.2) 0 u.1 A) (XC := fun A => az_XT g (az_ou g ob u.2.1 :: az_wF g ax an au aw u.2.2.1 u.2.2.2.1 u.2.2.2.2.1 u.2.2.2.2.2) 0 A) (by decide +kernel) rfl (Nat.le_of_ble_eq_true rfl) ?_
  intro p e s m args below meth c A hx hb hr hts hown hml hlocks htab hcx hA hK hP hD hS ls hl
  have hl : lv_has ls 4 [(0, .ref (ax 0)), (1, .int x1), (2, .ref (ob))] := hl
  unfold FL_changedSince at h
  obtain ⟨o, hc9, h⟩ := az_bnd h
  refine lv_aload_n hx hb dL_changedSince_0 rfl (lv_at hl 2 rfl) ?_
  refine lv_iconst (v := (0 : Int32)) hx hb dL_changedSince_1 (by decide) ?_
  refine lv_aload_n hx hb dL_changedSince_2 rfl (lv_at hl 0 rfl) ?_
  refine lv_iload_n hx hb dL_changedSince_3 rfl (lv_at hl 1 rfl) ?_
  refine az_callPTi (wr := [az_ou g ob f]) (w2 := az_ou g ob f :: az_wF g ax an au aw V T S hs) (As := [.int x1]) (rest := [.int (0 : Int32), .ref (ob)]) ⟨hx, hb, hml, hown, hts⟩ hl.1 (kX6_changedSince l hst g sa ax an au (az_cV g au T ++ az_cH g ax aw S hs) V x1 o hc9) (cwV 1 hts gL_changedSince_X6_changedSince rfl rfl rfl (by decide +kernel) ⟨(Nat.le_of_ble_eq_true rfl), (Nat.le_of_ble_eq_true rfl)⟩) rfl hK hcx hP hD hS hA (List.perm_append_singleton _ _).symm (List.perm_append_singleton _ _) 0 rfl rfl rfl (Nat.le_of_ble_eq_true rfl) dL_changedSince_4 ⟨(Nat.le_of_ble_eq_true rfl), (Nat.le_of_ble_eq_true rfl)⟩ rfl (fun n0 ce q9 H locs hP hD hS hce hcv hcl => ?_) (fun n0 H locs hP hD hS => ?_)
  · replace h := az_neg n0 h
    by_cases c0 : o.1 = 1
    · replace h := az_pos c0 h
      rw [c0] at hcl
      refine vx_catch (E := "java/lang/IndexOutOfBoundsException") (name := "java/lang/IndexOutOfBoundsException") hown [] (⟨0, 9, 12, 19⟩ : ExceptionTableEntry) [(⟨0, 9, 15, 21⟩ : ExceptionTableEntry)] (htab.trans rfl) (fun z hz => absurd hz List.not_mem_nil) rfl (by decide) (hts _ (List.mem_of_getElem? (i := 1) rfl)) (va_Nw.use rfl (hcx.2.1 1)) hce hcv hcl ?_
      refine lv_astore_n (lv' := [(3, .ref (q9)), (0, .ref (ax 0)), (1, .int x1), (2, .ref (ob))]) hx hb dL_changedSince_12 rfl hl (by decide) rfl (fun ls hl => ?_)
      refine lv_iconst (v := (1 : Int32)) hx hb dL_changedSince_13 (by decide) ?_
      rw [← Option.some.inj h]
      exact az_iretT hx hb hr hlocks hK hP hD hS dL_changedSince_14 (Nat.le_of_ble_eq_true rfl) (Nat.le_of_ble_eq_true rfl)
    · replace h := az_neg c0 h
      by_cases c1 : o.1 = 3
      · replace h := az_pos c1 h
        rw [c1] at hcl
        refine vx_catch (E := "java/lang/IllegalStateException") (name := "java/lang/IllegalStateException") hown [(⟨0, 9, 12, 19⟩ : ExceptionTableEntry)] (⟨0, 9, 15, 21⟩ : ExceptionTableEntry) [] (htab.trans rfl) (fun z hz => by simp only [List.mem_cons, List.not_mem_nil, or_false] at hz; rcases hz with rfl; · exact Or.inr ⟨by decide, "java/lang/IndexOutOfBoundsException", (hts _ (List.mem_of_getElem? (i := 1) rfl)), hcx.2.2.1 3 1 (by decide +kernel)⟩) rfl (by decide) (hts _ (List.mem_of_getElem? (i := 2) rfl)) (va_Nw.use rfl (hcx.2.1 3)) hce hcv hcl ?_
        refine lv_astore_n (lv' := [(3, .ref (q9)), (0, .ref (ax 0)), (1, .int x1), (2, .ref (ob))]) hx hb dL_changedSince_15 rfl hl (by decide) rfl (fun ls hl => ?_)
        refine lv_iconst (v := (2 : Int32)) hx hb dL_changedSince_16 (by decide) ?_
        rw [← Option.some.inj h]
        exact az_iretT hx hb hr hlocks hK hP hD hS dL_changedSince_17 (Nat.le_of_ble_eq_true rfl) (Nat.le_of_ble_eq_true rfl)
      · replace h := az_neg c1 h
        exact az_non h
  · replace h := az_pos n0 h
    refine lv_i2l (v := (o.2).toInt64) hx hb dL_changedSince_7 rfl ?_
    refine va_last (D := g.1) (f := f) hx hb hK hP hD hS 0 2 rfl rfl (az_vin (by decide +kernel)) dL_changedSince_8 (fun H locs hP hD hS => ?_)
    have hP : va_P g.1 az_cl (az_ou g ob (vp_updL f 0 (o.2).toInt64) :: az_wF g ax an au aw V T S hs) _ := hP
    have hD : va_D A (az_ou g ob (vp_updL f 0 (o.2).toInt64) :: az_wF g ax an au aw V T S hs) := hD
    refine lv_goto (tgt := 18) hx hb dL_changedSince_9 (by decide) ?_
    refine lv_iconst (v := (0 : Int32)) hx hb dL_changedSince_18 (by decide) ?_
    rw [← Option.some.inj h]
    exact az_iretT hx hb hr hlocks hK hP hD hS dL_changedSince_19 (Nat.le_of_ble_eq_true rfl) (Nat.le_of_ble_eq_true rfl)

def FL_difference (V T : az_St) (S : Nat → az_St) (hs : Nat → Int32) (f : Nat → Int64) (x1 : Int32) (x2 : Int32) : Option (Int32 × (Nat → Int64) × az_St × az_St × (Nat → az_St) × (Nat → Int32)) := (FX6_difference V x1 x2).bind (fun o => if o.1 = 0 then some ((0 : Int32), vp_updL f 0 (o.2).toInt64, V, T, S, hs) else (if o.1 = 1 then some ((1 : Int32), f, V, T, S, hs) else if o.1 = 3 then some ((2 : Int32), f, V, T, S, hs) else none))
set_option maxHeartbeats 8000000 in
set_option maxRecDepth 100000 in
theorem kL_difference (l : Launch) (hst : l.stackTraces = false) (g : az_G) (sa : Nat → Nat) (ax an au : Nat → Nat) (aw : Nat → Nat → Nat) (ob : Nat) (V T : az_St) (S : Nat → az_St) (hs : Nat → Int32) (f : Nat → Int64) (x1 : Int32) (x2 : Int32) (u : Int32 × (Nat → Int64) × az_St × az_St × (Nat → az_St) × (Nat → Int32)) (h : FL_difference V T S hs f x1 x2 = some u) : az_TI l yL_difference wsL_difference ({ frames := 10, cells := 6, slots := 36, locals := 185 } : Room) [.ref (ax 0), .int x1, .int x2, .ref ob] g sa (az_ou g ob f :: az_wF g ax an au aw V T S hs) 0 u.1 (az_ou g ob u.2.1 :: az_wF g ax an au aw u.2.2.1 u.2.2.2.1 u.2.2.2.2.1 u.2.2.2.2.2) 6 := by
  refine az_bodyTW (cc := cL_difference) (maxL := 5) (ret := (some .int)) (mc := 6) (ms := 36) (Qc := fun A => az_QTI g (az_ou g ob u.2.1 :: az_wF g ax an au aw u.2.2.1 u.2.2.2.1 u.2.2.2.2.1 u.2.2.2.2.2) 0 u.1 A) (XC := fun A => az_XT g (az_ou g ob u.2.1 :: az_wF g ax an au aw u.2.2.1 u.2.2.2.1 u.2.2.2.2.1 u.2.2.2.2.2) 0 A) (by decide +kernel) rfl (Nat.le_of_ble_eq_true rfl) ?_
  intro p e s m args below meth c A hx hb hr hts hown hml hlocks htab hcx hA hK hP hD hS ls hl
  have hl : lv_has ls 5 [(0, .ref (ax 0)), (1, .int x1), (2, .int x2), (3, .ref (ob))] := hl
  unfold FL_difference at h
  obtain ⟨o, hc9, h⟩ := az_bnd h
  refine lv_aload_n hx hb dL_difference_0 rfl (lv_at hl 3 rfl) ?_
  refine lv_iconst (v := (0 : Int32)) hx hb dL_difference_1 (by decide) ?_
  refine lv_aload_n hx hb dL_difference_2 rfl (lv_at hl 0 rfl) ?_
  refine lv_iload_n hx hb dL_difference_3 rfl (lv_at hl 1 rfl) ?_
  refine lv_iload_n hx hb dL_difference_4 rfl (lv_at hl 2 rfl) ?_
  refine az_callPTi (wr := [az_ou g ob f]) (w2 := az_ou g ob f :: az_wF g ax an au aw V T S hs) (As := [.int x1, .int x2]) (rest := [.int (0 : Int32), .ref (ob)]) ⟨hx, hb, hml, hown, hts⟩ hl.1 (kX6_difference l hst g sa ax an au (az_cV g au T ++ az_cH g ax aw S hs) V x1 x2 o hc9) (cwV 2 hts gL_difference_X6_difference rfl rfl rfl (by decide +kernel) ⟨(Nat.le_of_ble_eq_true rfl), (Nat.le_of_ble_eq_true rfl)⟩) rfl hK hcx hP hD hS hA (List.perm_append_singleton _ _).symm (List.perm_append_singleton _ _) 0 rfl rfl rfl (Nat.le_of_ble_eq_true rfl) dL_difference_5 ⟨(Nat.le_of_ble_eq_true rfl), (Nat.le_of_ble_eq_true rfl)⟩ rfl (fun n0 ce q9 H locs hP hD hS hce hcv hcl => ?_) (fun n0 H locs hP hD hS => ?_)
  · replace h := az_neg n0 h
    by_cases c0 : o.1 = 1
    · replace h := az_pos c0 h
      rw [c0] at hcl
      refine vx_catch (E := "java/lang/IndexOutOfBoundsException") (name := "java/lang/IndexOutOfBoundsException") hown [] (⟨0, 10, 13, 19⟩ : ExceptionTableEntry) [(⟨0, 10, 17, 21⟩ : ExceptionTableEntry)] (htab.trans rfl) (fun z hz => absurd hz List.not_mem_nil) rfl (by decide) (hts _ (List.mem_of_getElem? (i := 1) rfl)) (va_Nw.use rfl (hcx.2.1 1)) hce hcv hcl ?_
      refine lv_astore (lv' := [(4, .ref (q9)), (0, .ref (ax 0)), (1, .int x1), (2, .int x2), (3, .ref (ob))]) hx hb dL_difference_13 hl (by decide) rfl (fun ls hl => ?_)
      refine lv_iconst (v := (1 : Int32)) hx hb dL_difference_15 (by decide) ?_
      rw [← Option.some.inj h]
      exact az_iretT hx hb hr hlocks hK hP hD hS dL_difference_16 (Nat.le_of_ble_eq_true rfl) (Nat.le_of_ble_eq_true rfl)
    · replace h := az_neg c0 h
      by_cases c1 : o.1 = 3
      · replace h := az_pos c1 h
        rw [c1] at hcl
        refine vx_catch (E := "java/lang/IllegalStateException") (name := "java/lang/IllegalStateException") hown [(⟨0, 10, 13, 19⟩ : ExceptionTableEntry)] (⟨0, 10, 17, 21⟩ : ExceptionTableEntry) [] (htab.trans rfl) (fun z hz => by simp only [List.mem_cons, List.not_mem_nil, or_false] at hz; rcases hz with rfl; · exact Or.inr ⟨by decide, "java/lang/IndexOutOfBoundsException", (hts _ (List.mem_of_getElem? (i := 1) rfl)), hcx.2.2.1 3 1 (by decide +kernel)⟩) rfl (by decide) (hts _ (List.mem_of_getElem? (i := 2) rfl)) (va_Nw.use rfl (hcx.2.1 3)) hce hcv hcl ?_
        refine lv_astore (lv' := [(4, .ref (q9)), (0, .ref (ax 0)), (1, .int x1), (2, .int x2), (3, .ref (ob))]) hx hb dL_difference_17 hl (by decide) rfl (fun ls hl => ?_)
        refine lv_iconst (v := (2 : Int32)) hx hb dL_difference_19 (by decide) ?_
        rw [← Option.some.inj h]
        exact az_iretT hx hb hr hlocks hK hP hD hS dL_difference_20 (Nat.le_of_ble_eq_true rfl) (Nat.le_of_ble_eq_true rfl)
      · replace h := az_neg c1 h
        exact az_non h
  · replace h := az_pos n0 h
    refine lv_i2l (v := (o.2).toInt64) hx hb dL_difference_8 rfl ?_
    refine va_last (D := g.1) (f := f) hx hb hK hP hD hS 0 2 rfl rfl (az_vin (by decide +kernel)) dL_difference_9 (fun H locs hP hD hS => ?_)
    have hP : va_P g.1 az_cl (az_ou g ob (vp_updL f 0 (o.2).toInt64) :: az_wF g ax an au aw V T S hs) _ := hP
    have hD : va_D A (az_ou g ob (vp_updL f 0 (o.2).toInt64) :: az_wF g ax an au aw V T S hs) := hD
    refine lv_goto (tgt := 21) hx hb dL_difference_10 (by decide) ?_
    refine lv_iconst (v := (0 : Int32)) hx hb dL_difference_21 (by decide) ?_
    rw [← Option.some.inj h]
    exact az_iretT hx hb hr hlocks hK hP hD hS dL_difference_22 (Nat.le_of_ble_eq_true rfl) (Nat.le_of_ble_eq_true rfl)

def FL_ownBlocks (V T : az_St) (S : Nat → az_St) (hs : Nat → Int32) (f : Nat → Int64) (x1 : Int32) : Option (Int32 × (Nat → Int64) × az_St × az_St × (Nat → az_St) × (Nat → Int32)) := (FX6_ownBlocks V x1).bind (fun o => if o.1 = 0 then some ((0 : Int32), vp_updL f 0 (o.2).toInt64, V, T, S, hs) else (if o.1 = 1 then some ((1 : Int32), f, V, T, S, hs) else if o.1 = 3 then some ((2 : Int32), f, V, T, S, hs) else none))
set_option maxHeartbeats 8000000 in
set_option maxRecDepth 100000 in
theorem kL_ownBlocks (l : Launch) (hst : l.stackTraces = false) (g : az_G) (sa : Nat → Nat) (ax an au : Nat → Nat) (aw : Nat → Nat → Nat) (ob : Nat) (V T : az_St) (S : Nat → az_St) (hs : Nat → Int32) (f : Nat → Int64) (x1 : Int32) (u : Int32 × (Nat → Int64) × az_St × az_St × (Nat → az_St) × (Nat → Int32)) (h : FL_ownBlocks V T S hs f x1 = some u) : az_TI l yL_ownBlocks wsL_ownBlocks ({ frames := 10, cells := 2, slots := 12, locals := 184 } : Room) [.ref (ax 0), .int x1, .ref ob] g sa (az_ou g ob f :: az_wF g ax an au aw V T S hs) 0 u.1 (az_ou g ob u.2.1 :: az_wF g ax an au aw u.2.2.1 u.2.2.2.1 u.2.2.2.2.1 u.2.2.2.2.2) 2 := by
  refine az_bodyTW (cc := cL_ownBlocks) (maxL := 4) (ret := (some .int)) (mc := 2) (ms := 12) (Qc := fun A => az_QTI g (az_ou g ob u.2.1 :: az_wF g ax an au aw u.2.2.1 u.2.2.2.1 u.2.2.2.2.1 u.2.2.2.2.2) 0 u.1 A) (XC := fun A => az_XT g (az_ou g ob u.2.1 :: az_wF g ax an au aw u.2.2.1 u.2.2.2.1 u.2.2.2.2.1 u.2.2.2.2.2) 0 A) (by decide +kernel) rfl (Nat.le_of_ble_eq_true rfl) ?_
  intro p e s m args below meth c A hx hb hr hts hown hml hlocks htab hcx hA hK hP hD hS ls hl
  have hl : lv_has ls 4 [(0, .ref (ax 0)), (1, .int x1), (2, .ref (ob))] := hl
  unfold FL_ownBlocks at h
  obtain ⟨o, hc9, h⟩ := az_bnd h
  refine lv_aload_n hx hb dL_ownBlocks_0 rfl (lv_at hl 2 rfl) ?_
  refine lv_iconst (v := (0 : Int32)) hx hb dL_ownBlocks_1 (by decide) ?_
  refine lv_aload_n hx hb dL_ownBlocks_2 rfl (lv_at hl 0 rfl) ?_
  refine lv_iload_n hx hb dL_ownBlocks_3 rfl (lv_at hl 1 rfl) ?_
  refine az_callPTi (wr := [az_ou g ob f]) (w2 := az_ou g ob f :: az_wF g ax an au aw V T S hs) (As := [.int x1]) (rest := [.int (0 : Int32), .ref (ob)]) ⟨hx, hb, hml, hown, hts⟩ hl.1 (kX6_ownBlocks l hst g sa ax an au (az_cV g au T ++ az_cH g ax aw S hs) V x1 o hc9) (cwV 1 hts gL_ownBlocks_X6_ownBlocks rfl rfl rfl (by decide +kernel) ⟨(Nat.le_of_ble_eq_true rfl), (Nat.le_of_ble_eq_true rfl)⟩) rfl hK hcx hP hD hS hA (List.perm_append_singleton _ _).symm (List.perm_append_singleton _ _) 0 rfl rfl rfl (Nat.le_of_ble_eq_true rfl) dL_ownBlocks_4 ⟨(Nat.le_of_ble_eq_true rfl), (Nat.le_of_ble_eq_true rfl)⟩ rfl (fun n0 ce q9 H locs hP hD hS hce hcv hcl => ?_) (fun n0 H locs hP hD hS => ?_)
  · replace h := az_neg n0 h
    by_cases c0 : o.1 = 1
    · replace h := az_pos c0 h
      rw [c0] at hcl
      refine vx_catch (E := "java/lang/IndexOutOfBoundsException") (name := "java/lang/IndexOutOfBoundsException") hown [] (⟨0, 9, 12, 19⟩ : ExceptionTableEntry) [(⟨0, 9, 15, 21⟩ : ExceptionTableEntry)] (htab.trans rfl) (fun z hz => absurd hz List.not_mem_nil) rfl (by decide) (hts _ (List.mem_of_getElem? (i := 1) rfl)) (va_Nw.use rfl (hcx.2.1 1)) hce hcv hcl ?_
      refine lv_astore_n (lv' := [(3, .ref (q9)), (0, .ref (ax 0)), (1, .int x1), (2, .ref (ob))]) hx hb dL_ownBlocks_12 rfl hl (by decide) rfl (fun ls hl => ?_)
      refine lv_iconst (v := (1 : Int32)) hx hb dL_ownBlocks_13 (by decide) ?_
      rw [← Option.some.inj h]
      exact az_iretT hx hb hr hlocks hK hP hD hS dL_ownBlocks_14 (Nat.le_of_ble_eq_true rfl) (Nat.le_of_ble_eq_true rfl)
    · replace h := az_neg c0 h
      by_cases c1 : o.1 = 3
      · replace h := az_pos c1 h
        rw [c1] at hcl
        refine vx_catch (E := "java/lang/IllegalStateException") (name := "java/lang/IllegalStateException") hown [(⟨0, 9, 12, 19⟩ : ExceptionTableEntry)] (⟨0, 9, 15, 21⟩ : ExceptionTableEntry) [] (htab.trans rfl) (fun z hz => by simp only [List.mem_cons, List.not_mem_nil, or_false] at hz; rcases hz with rfl; · exact Or.inr ⟨by decide, "java/lang/IndexOutOfBoundsException", (hts _ (List.mem_of_getElem? (i := 1) rfl)), hcx.2.2.1 3 1 (by decide +kernel)⟩) rfl (by decide) (hts _ (List.mem_of_getElem? (i := 2) rfl)) (va_Nw.use rfl (hcx.2.1 3)) hce hcv hcl ?_
        refine lv_astore_n (lv' := [(3, .ref (q9)), (0, .ref (ax 0)), (1, .int x1), (2, .ref (ob))]) hx hb dL_ownBlocks_15 rfl hl (by decide) rfl (fun ls hl => ?_)
        refine lv_iconst (v := (2 : Int32)) hx hb dL_ownBlocks_16 (by decide) ?_
        rw [← Option.some.inj h]
        exact az_iretT hx hb hr hlocks hK hP hD hS dL_ownBlocks_17 (Nat.le_of_ble_eq_true rfl) (Nat.le_of_ble_eq_true rfl)
      · replace h := az_neg c1 h
        exact az_non h
  · replace h := az_pos n0 h
    refine lv_i2l (v := (o.2).toInt64) hx hb dL_ownBlocks_7 rfl ?_
    refine va_last (D := g.1) (f := f) hx hb hK hP hD hS 0 2 rfl rfl (az_vin (by decide +kernel)) dL_ownBlocks_8 (fun H locs hP hD hS => ?_)
    have hP : va_P g.1 az_cl (az_ou g ob (vp_updL f 0 (o.2).toInt64) :: az_wF g ax an au aw V T S hs) _ := hP
    have hD : va_D A (az_ou g ob (vp_updL f 0 (o.2).toInt64) :: az_wF g ax an au aw V T S hs) := hD
    refine lv_goto (tgt := 18) hx hb dL_ownBlocks_9 (by decide) ?_
    refine lv_iconst (v := (0 : Int32)) hx hb dL_ownBlocks_18 (by decide) ?_
    rw [← Option.some.inj h]
    exact az_iretT hx hb hr hlocks hK hP hD hS dL_ownBlocks_19 (Nat.le_of_ble_eq_true rfl) (Nat.le_of_ble_eq_true rfl)

def FL_enter (V T : az_St) (S : Nat → az_St) (hs : Nat → Int32) (f : Nat → Int64) (x1 : Int32) : Option (Int32 × (Nat → Int64) × az_St × az_St × (Nat → az_St) × (Nat → Int32)) := (FX6_enter V T S hs x1).bind (fun o => if o.1 = 0 then some ((0 : Int32), vp_updL f 0 (o.2.1).toInt64, (va_up (va_up V 11 o.2.2.2.1) 12 o.2.2.2.2.1), T, o.2.2.1, o.2.2.2.2.2) else (if o.1 = 1 then some ((1 : Int32), f, (va_up (va_up V 11 o.2.2.2.1) 12 o.2.2.2.2.1), T, o.2.2.1, o.2.2.2.2.2) else if o.1 = 3 then some ((2 : Int32), f, (va_up (va_up V 11 o.2.2.2.1) 12 o.2.2.2.2.1), T, o.2.2.1, o.2.2.2.2.2) else none))
set_option maxHeartbeats 8000000 in
set_option maxRecDepth 100000 in
theorem kL_enter (l : Launch) (hst : l.stackTraces = false) (g : az_G) (sa : Nat → Nat) (ax an au : Nat → Nat) (aw : Nat → Nat → Nat) (ob : Nat) (V T : az_St) (S : Nat → az_St) (hs : Nat → Int32) (f : Nat → Int64) (x1 : Int32) (u : Int32 × (Nat → Int64) × az_St × az_St × (Nat → az_St) × (Nat → Int32)) (h : FL_enter V T S hs f x1 = some u) : az_TI l yL_enter wsL_enter ({ frames := 9, cells := 2, slots := 12, locals := 185 } : Room) [.ref (ax 0), .int x1, .ref ob] g sa (az_ou g ob f :: az_wF g ax an au aw V T S hs) 0 u.1 (az_ou g ob u.2.1 :: az_wF g ax an au aw u.2.2.1 u.2.2.2.1 u.2.2.2.2.1 u.2.2.2.2.2) 2 := by
  refine az_bodyTW (cc := cL_enter) (maxL := 4) (ret := (some .int)) (mc := 2) (ms := 12) (Qc := fun A => az_QTI g (az_ou g ob u.2.1 :: az_wF g ax an au aw u.2.2.1 u.2.2.2.1 u.2.2.2.2.1 u.2.2.2.2.2) 0 u.1 A) (XC := fun A => az_XT g (az_ou g ob u.2.1 :: az_wF g ax an au aw u.2.2.1 u.2.2.2.1 u.2.2.2.2.1 u.2.2.2.2.2) 0 A) (by decide +kernel) rfl (Nat.le_of_ble_eq_true rfl) ?_
  intro p e s m args below meth c A hx hb hr hts hown hml hlocks htab hcx hA hK hP hD hS ls hl
  have hl : lv_has ls 4 [(0, .ref (ax 0)), (1, .int x1), (2, .ref (ob))] := hl
  unfold FL_enter at h
  obtain ⟨o, hc9, h⟩ := az_bnd h
  refine lv_aload_n hx hb dL_enter_0 rfl (lv_at hl 2 rfl) ?_
  refine lv_iconst (v := (0 : Int32)) hx hb dL_enter_1 (by decide) ?_
  refine lv_aload_n hx hb dL_enter_2 rfl (lv_at hl 0 rfl) ?_
  refine lv_iload_n hx hb dL_enter_3 rfl (lv_at hl 1 rfl) ?_
  refine az_callPTi (wr := [az_ou g ob f]) (w2 := az_ou g ob f :: az_wF g ax an au aw (va_up (va_up V 11 o.2.2.2.1) 12 o.2.2.2.2.1) T o.2.2.1 o.2.2.2.2.2) (As := [.int x1]) (rest := [.int (0 : Int32), .ref (ob)]) ⟨hx, hb, hml, hown, hts⟩ hl.1 (kX6_enter l hst g sa ax an au aw V T S hs x1 o hc9) (cwV 1 hts gL_enter_X6_enter rfl rfl rfl (by decide +kernel) ⟨(Nat.le_of_ble_eq_true rfl), (Nat.le_of_ble_eq_true rfl)⟩) rfl hK hcx hP hD hS hA (List.perm_append_singleton _ _).symm (List.perm_append_singleton _ _) 0 rfl rfl rfl (Nat.le_of_ble_eq_true rfl) dL_enter_4 ⟨(Nat.le_of_ble_eq_true rfl), (Nat.le_of_ble_eq_true rfl)⟩ rfl (fun n0 ce q9 H locs hP hD hS hce hcv hcl => ?_) (fun n0 H locs hP hD hS => ?_)
  · replace h := az_neg n0 h
    by_cases c0 : o.1 = 1
    · replace h := az_pos c0 h
      rw [c0] at hcl
      refine vx_catch (E := "java/lang/IndexOutOfBoundsException") (name := "java/lang/IndexOutOfBoundsException") hown [] (⟨0, 9, 12, 19⟩ : ExceptionTableEntry) [(⟨0, 9, 15, 21⟩ : ExceptionTableEntry)] (htab.trans rfl) (fun z hz => absurd hz List.not_mem_nil) rfl (by decide) (hts _ (List.mem_of_getElem? (i := 1) rfl)) (va_Nw.use rfl (hcx.2.1 1)) hce hcv hcl ?_
      refine lv_astore_n (lv' := [(3, .ref (q9)), (0, .ref (ax 0)), (1, .int x1), (2, .ref (ob))]) hx hb dL_enter_12 rfl hl (by decide) rfl (fun ls hl => ?_)
      refine lv_iconst (v := (1 : Int32)) hx hb dL_enter_13 (by decide) ?_
      rw [← Option.some.inj h]
      exact az_iretT hx hb hr hlocks hK hP hD hS dL_enter_14 (Nat.le_of_ble_eq_true rfl) (Nat.le_of_ble_eq_true rfl)
    · replace h := az_neg c0 h
      by_cases c1 : o.1 = 3
      · replace h := az_pos c1 h
        rw [c1] at hcl
        refine vx_catch (E := "java/lang/IllegalStateException") (name := "java/lang/IllegalStateException") hown [(⟨0, 9, 12, 19⟩ : ExceptionTableEntry)] (⟨0, 9, 15, 21⟩ : ExceptionTableEntry) [] (htab.trans rfl) (fun z hz => by simp only [List.mem_cons, List.not_mem_nil, or_false] at hz; rcases hz with rfl; · exact Or.inr ⟨by decide, "java/lang/IndexOutOfBoundsException", (hts _ (List.mem_of_getElem? (i := 1) rfl)), hcx.2.2.1 3 1 (by decide +kernel)⟩) rfl (by decide) (hts _ (List.mem_of_getElem? (i := 2) rfl)) (va_Nw.use rfl (hcx.2.1 3)) hce hcv hcl ?_
        refine lv_astore_n (lv' := [(3, .ref (q9)), (0, .ref (ax 0)), (1, .int x1), (2, .ref (ob))]) hx hb dL_enter_15 rfl hl (by decide) rfl (fun ls hl => ?_)
        refine lv_iconst (v := (2 : Int32)) hx hb dL_enter_16 (by decide) ?_
        rw [← Option.some.inj h]
        exact az_iretT hx hb hr hlocks hK hP hD hS dL_enter_17 (Nat.le_of_ble_eq_true rfl) (Nat.le_of_ble_eq_true rfl)
      · replace h := az_neg c1 h
        exact az_non h
  · replace h := az_pos n0 h
    refine lv_i2l (v := (o.2.1).toInt64) hx hb dL_enter_7 rfl ?_
    refine va_last (D := g.1) (f := f) hx hb hK hP hD hS 0 2 rfl rfl (az_vin (by decide +kernel)) dL_enter_8 (fun H locs hP hD hS => ?_)
    have hP : va_P g.1 az_cl (az_ou g ob (vp_updL f 0 (o.2.1).toInt64) :: az_wF g ax an au aw (va_up (va_up V 11 o.2.2.2.1) 12 o.2.2.2.2.1) T o.2.2.1 o.2.2.2.2.2) _ := hP
    have hD : va_D A (az_ou g ob (vp_updL f 0 (o.2.1).toInt64) :: az_wF g ax an au aw (va_up (va_up V 11 o.2.2.2.1) 12 o.2.2.2.2.1) T o.2.2.1 o.2.2.2.2.2) := hD
    refine lv_goto (tgt := 18) hx hb dL_enter_9 (by decide) ?_
    refine lv_iconst (v := (0 : Int32)) hx hb dL_enter_18 (by decide) ?_
    rw [← Option.some.inj h]
    exact az_iretT hx hb hr hlocks hK hP hD hS dL_enter_19 (Nat.le_of_ble_eq_true rfl) (Nat.le_of_ble_eq_true rfl)

def FL_leave (V T : az_St) (S : Nat → az_St) (hs : Nat → Int32) (f : Nat → Int64) (x1 : Int32) : Option (Int32 × (Nat → Int64) × az_St × az_St × (Nat → az_St) × (Nat → Int32)) := (FX6_leave V T S hs x1).bind (fun o => if o.1 = 0 then some ((0 : Int32), vp_updL f 0 (o.2.1).toInt64, (va_up (va_up (va_up V 10 o.2.2.2.1) 11 o.2.2.2.2.1) 12 o.2.2.2.2.2.1), T, o.2.2.1, o.2.2.2.2.2.2) else (if o.1 = 1 then some ((1 : Int32), f, (va_up (va_up (va_up V 10 o.2.2.2.1) 11 o.2.2.2.2.1) 12 o.2.2.2.2.2.1), T, o.2.2.1, o.2.2.2.2.2.2) else if o.1 = 3 then some ((2 : Int32), f, (va_up (va_up (va_up V 10 o.2.2.2.1) 11 o.2.2.2.2.1) 12 o.2.2.2.2.2.1), T, o.2.2.1, o.2.2.2.2.2.2) else none))
set_option maxHeartbeats 8000000 in
set_option maxRecDepth 100000 in
theorem kL_leave (l : Launch) (hst : l.stackTraces = false) (g : az_G) (sa : Nat → Nat) (ax an au : Nat → Nat) (aw : Nat → Nat → Nat) (ob : Nat) (V T : az_St) (S : Nat → az_St) (hs : Nat → Int32) (f : Nat → Int64) (x1 : Int32) (u : Int32 × (Nat → Int64) × az_St × az_St × (Nat → az_St) × (Nat → Int32)) (h : FL_leave V T S hs f x1 = some u) : az_TI l yL_leave wsL_leave ({ frames := 9, cells := 2, slots := 12, locals := 185 } : Room) [.ref (ax 0), .int x1, .ref ob] g sa (az_ou g ob f :: az_wF g ax an au aw V T S hs) 0 u.1 (az_ou g ob u.2.1 :: az_wF g ax an au aw u.2.2.1 u.2.2.2.1 u.2.2.2.2.1 u.2.2.2.2.2) 2 := by
  refine az_bodyTW (cc := cL_leave) (maxL := 4) (ret := (some .int)) (mc := 2) (ms := 12) (Qc := fun A => az_QTI g (az_ou g ob u.2.1 :: az_wF g ax an au aw u.2.2.1 u.2.2.2.1 u.2.2.2.2.1 u.2.2.2.2.2) 0 u.1 A) (XC := fun A => az_XT g (az_ou g ob u.2.1 :: az_wF g ax an au aw u.2.2.1 u.2.2.2.1 u.2.2.2.2.1 u.2.2.2.2.2) 0 A) (by decide +kernel) rfl (Nat.le_of_ble_eq_true rfl) ?_
  intro p e s m args below meth c A hx hb hr hts hown hml hlocks htab hcx hA hK hP hD hS ls hl
  have hl : lv_has ls 4 [(0, .ref (ax 0)), (1, .int x1), (2, .ref (ob))] := hl
  unfold FL_leave at h
  obtain ⟨o, hc9, h⟩ := az_bnd h
  refine lv_aload_n hx hb dL_leave_0 rfl (lv_at hl 2 rfl) ?_
  refine lv_iconst (v := (0 : Int32)) hx hb dL_leave_1 (by decide) ?_
  refine lv_aload_n hx hb dL_leave_2 rfl (lv_at hl 0 rfl) ?_
  refine lv_iload_n hx hb dL_leave_3 rfl (lv_at hl 1 rfl) ?_
  refine az_callPTi (wr := [az_ou g ob f]) (w2 := az_ou g ob f :: az_wF g ax an au aw (va_up (va_up (va_up V 10 o.2.2.2.1) 11 o.2.2.2.2.1) 12 o.2.2.2.2.2.1) T o.2.2.1 o.2.2.2.2.2.2) (As := [.int x1]) (rest := [.int (0 : Int32), .ref (ob)]) ⟨hx, hb, hml, hown, hts⟩ hl.1 (kX6_leave l hst g sa ax an au aw V T S hs x1 o hc9) (cwV 1 hts gL_leave_X6_leave rfl rfl rfl (by decide +kernel) ⟨(Nat.le_of_ble_eq_true rfl), (Nat.le_of_ble_eq_true rfl)⟩) rfl hK hcx hP hD hS hA (List.perm_append_singleton _ _).symm (List.perm_append_singleton _ _) 0 rfl rfl rfl (Nat.le_of_ble_eq_true rfl) dL_leave_4 ⟨(Nat.le_of_ble_eq_true rfl), (Nat.le_of_ble_eq_true rfl)⟩ rfl (fun n0 ce q9 H locs hP hD hS hce hcv hcl => ?_) (fun n0 H locs hP hD hS => ?_)
  · replace h := az_neg n0 h
    by_cases c0 : o.1 = 1
    · replace h := az_pos c0 h
      rw [c0] at hcl
      refine vx_catch (E := "java/lang/IndexOutOfBoundsException") (name := "java/lang/IndexOutOfBoundsException") hown [] (⟨0, 9, 12, 19⟩ : ExceptionTableEntry) [(⟨0, 9, 15, 21⟩ : ExceptionTableEntry)] (htab.trans rfl) (fun z hz => absurd hz List.not_mem_nil) rfl (by decide) (hts _ (List.mem_of_getElem? (i := 1) rfl)) (va_Nw.use rfl (hcx.2.1 1)) hce hcv hcl ?_
      refine lv_astore_n (lv' := [(3, .ref (q9)), (0, .ref (ax 0)), (1, .int x1), (2, .ref (ob))]) hx hb dL_leave_12 rfl hl (by decide) rfl (fun ls hl => ?_)
      refine lv_iconst (v := (1 : Int32)) hx hb dL_leave_13 (by decide) ?_
      rw [← Option.some.inj h]
      exact az_iretT hx hb hr hlocks hK hP hD hS dL_leave_14 (Nat.le_of_ble_eq_true rfl) (Nat.le_of_ble_eq_true rfl)
    · replace h := az_neg c0 h
      by_cases c1 : o.1 = 3
      · replace h := az_pos c1 h
        rw [c1] at hcl
        refine vx_catch (E := "java/lang/IllegalStateException") (name := "java/lang/IllegalStateException") hown [(⟨0, 9, 12, 19⟩ : ExceptionTableEntry)] (⟨0, 9, 15, 21⟩ : ExceptionTableEntry) [] (htab.trans rfl) (fun z hz => by simp only [List.mem_cons, List.not_mem_nil, or_false] at hz; rcases hz with rfl; · exact Or.inr ⟨by decide, "java/lang/IndexOutOfBoundsException", (hts _ (List.mem_of_getElem? (i := 1) rfl)), hcx.2.2.1 3 1 (by decide +kernel)⟩) rfl (by decide) (hts _ (List.mem_of_getElem? (i := 2) rfl)) (va_Nw.use rfl (hcx.2.1 3)) hce hcv hcl ?_
        refine lv_astore_n (lv' := [(3, .ref (q9)), (0, .ref (ax 0)), (1, .int x1), (2, .ref (ob))]) hx hb dL_leave_15 rfl hl (by decide) rfl (fun ls hl => ?_)
        refine lv_iconst (v := (2 : Int32)) hx hb dL_leave_16 (by decide) ?_
        rw [← Option.some.inj h]
        exact az_iretT hx hb hr hlocks hK hP hD hS dL_leave_17 (Nat.le_of_ble_eq_true rfl) (Nat.le_of_ble_eq_true rfl)
      · replace h := az_neg c1 h
        exact az_non h
  · replace h := az_pos n0 h
    refine lv_i2l (v := (o.2.1).toInt64) hx hb dL_leave_7 rfl ?_
    refine va_last (D := g.1) (f := f) hx hb hK hP hD hS 0 2 rfl rfl (az_vin (by decide +kernel)) dL_leave_8 (fun H locs hP hD hS => ?_)
    have hP : va_P g.1 az_cl (az_ou g ob (vp_updL f 0 (o.2.1).toInt64) :: az_wF g ax an au aw (va_up (va_up (va_up V 10 o.2.2.2.1) 11 o.2.2.2.2.1) 12 o.2.2.2.2.2.1) T o.2.2.1 o.2.2.2.2.2.2) _ := hP
    have hD : va_D A (az_ou g ob (vp_updL f 0 (o.2.1).toInt64) :: az_wF g ax an au aw (va_up (va_up (va_up V 10 o.2.2.2.1) 11 o.2.2.2.2.1) 12 o.2.2.2.2.2.1) T o.2.2.1 o.2.2.2.2.2.2) := hD
    refine lv_goto (tgt := 18) hx hb dL_leave_9 (by decide) ?_
    refine lv_iconst (v := (0 : Int32)) hx hb dL_leave_18 (by decide) ?_
    rw [← Option.some.inj h]
    exact az_iretT hx hb hr hlocks hK hP hD hS dL_leave_19 (Nat.le_of_ble_eq_true rfl) (Nat.le_of_ble_eq_true rfl)

def FL_announce (V T : az_St) (S : Nat → az_St) (hs : Nat → Int32) (f : Nat → Int64) (x1 : Int32) : Option (Int32 × (Nat → Int64) × az_St × az_St × (Nat → az_St) × (Nat → Int32)) := (FX6_announce V T S hs x1).bind (fun o => if o.1 = 0 then some ((0 : Int32), vp_updL f 0 (o.2.1).toInt64, (va_up (va_up (va_up V 10 o.2.2.2.1) 11 o.2.2.2.2.1) 12 o.2.2.2.2.2.1), T, o.2.2.1, o.2.2.2.2.2.2) else (if o.1 = 1 then some ((1 : Int32), f, (va_up (va_up (va_up V 10 o.2.2.2.1) 11 o.2.2.2.2.1) 12 o.2.2.2.2.2.1), T, o.2.2.1, o.2.2.2.2.2.2) else if o.1 = 3 then some ((2 : Int32), f, (va_up (va_up (va_up V 10 o.2.2.2.1) 11 o.2.2.2.2.1) 12 o.2.2.2.2.2.1), T, o.2.2.1, o.2.2.2.2.2.2) else none))
set_option maxHeartbeats 8000000 in
set_option maxRecDepth 100000 in
theorem kL_announce (l : Launch) (hst : l.stackTraces = false) (g : az_G) (sa : Nat → Nat) (ax an au : Nat → Nat) (aw : Nat → Nat → Nat) (ob : Nat) (V T : az_St) (S : Nat → az_St) (hs : Nat → Int32) (f : Nat → Int64) (x1 : Int32) (u : Int32 × (Nat → Int64) × az_St × az_St × (Nat → az_St) × (Nat → Int32)) (h : FL_announce V T S hs f x1 = some u) : az_TI l yL_announce wsL_announce ({ frames := 9, cells := 2, slots := 12, locals := 185 } : Room) [.ref (ax 0), .int x1, .ref ob] g sa (az_ou g ob f :: az_wF g ax an au aw V T S hs) 0 u.1 (az_ou g ob u.2.1 :: az_wF g ax an au aw u.2.2.1 u.2.2.2.1 u.2.2.2.2.1 u.2.2.2.2.2) 2 := by
  refine az_bodyTW (cc := cL_announce) (maxL := 4) (ret := (some .int)) (mc := 2) (ms := 12) (Qc := fun A => az_QTI g (az_ou g ob u.2.1 :: az_wF g ax an au aw u.2.2.1 u.2.2.2.1 u.2.2.2.2.1 u.2.2.2.2.2) 0 u.1 A) (XC := fun A => az_XT g (az_ou g ob u.2.1 :: az_wF g ax an au aw u.2.2.1 u.2.2.2.1 u.2.2.2.2.1 u.2.2.2.2.2) 0 A) (by decide +kernel) rfl (Nat.le_of_ble_eq_true rfl) ?_
  intro p e s m args below meth c A hx hb hr hts hown hml hlocks htab hcx hA hK hP hD hS ls hl
  have hl : lv_has ls 4 [(0, .ref (ax 0)), (1, .int x1), (2, .ref (ob))] := hl
  unfold FL_announce at h
  obtain ⟨o, hc9, h⟩ := az_bnd h
  refine lv_aload_n hx hb dL_announce_0 rfl (lv_at hl 2 rfl) ?_
  refine lv_iconst (v := (0 : Int32)) hx hb dL_announce_1 (by decide) ?_
  refine lv_aload_n hx hb dL_announce_2 rfl (lv_at hl 0 rfl) ?_
  refine lv_iload_n hx hb dL_announce_3 rfl (lv_at hl 1 rfl) ?_
  refine az_callPTi (wr := [az_ou g ob f]) (w2 := az_ou g ob f :: az_wF g ax an au aw (va_up (va_up (va_up V 10 o.2.2.2.1) 11 o.2.2.2.2.1) 12 o.2.2.2.2.2.1) T o.2.2.1 o.2.2.2.2.2.2) (As := [.int x1]) (rest := [.int (0 : Int32), .ref (ob)]) ⟨hx, hb, hml, hown, hts⟩ hl.1 (kX6_announce l hst g sa ax an au aw V T S hs x1 o hc9) (cwV 1 hts gL_announce_X6_announce rfl rfl rfl (by decide +kernel) ⟨(Nat.le_of_ble_eq_true rfl), (Nat.le_of_ble_eq_true rfl)⟩) rfl hK hcx hP hD hS hA (List.perm_append_singleton _ _).symm (List.perm_append_singleton _ _) 0 rfl rfl rfl (Nat.le_of_ble_eq_true rfl) dL_announce_4 ⟨(Nat.le_of_ble_eq_true rfl), (Nat.le_of_ble_eq_true rfl)⟩ rfl (fun n0 ce q9 H locs hP hD hS hce hcv hcl => ?_) (fun n0 H locs hP hD hS => ?_)
  · replace h := az_neg n0 h
    by_cases c0 : o.1 = 1
    · replace h := az_pos c0 h
      rw [c0] at hcl
      refine vx_catch (E := "java/lang/IndexOutOfBoundsException") (name := "java/lang/IndexOutOfBoundsException") hown [] (⟨0, 9, 12, 19⟩ : ExceptionTableEntry) [(⟨0, 9, 15, 21⟩ : ExceptionTableEntry)] (htab.trans rfl) (fun z hz => absurd hz List.not_mem_nil) rfl (by decide) (hts _ (List.mem_of_getElem? (i := 1) rfl)) (va_Nw.use rfl (hcx.2.1 1)) hce hcv hcl ?_
      refine lv_astore_n (lv' := [(3, .ref (q9)), (0, .ref (ax 0)), (1, .int x1), (2, .ref (ob))]) hx hb dL_announce_12 rfl hl (by decide) rfl (fun ls hl => ?_)
      refine lv_iconst (v := (1 : Int32)) hx hb dL_announce_13 (by decide) ?_
      rw [← Option.some.inj h]
      exact az_iretT hx hb hr hlocks hK hP hD hS dL_announce_14 (Nat.le_of_ble_eq_true rfl) (Nat.le_of_ble_eq_true rfl)
    · replace h := az_neg c0 h
      by_cases c1 : o.1 = 3
      · replace h := az_pos c1 h
        rw [c1] at hcl
        refine vx_catch (E := "java/lang/IllegalStateException") (name := "java/lang/IllegalStateException") hown [(⟨0, 9, 12, 19⟩ : ExceptionTableEntry)] (⟨0, 9, 15, 21⟩ : ExceptionTableEntry) [] (htab.trans rfl) (fun z hz => by simp only [List.mem_cons, List.not_mem_nil, or_false] at hz; rcases hz with rfl; · exact Or.inr ⟨by decide, "java/lang/IndexOutOfBoundsException", (hts _ (List.mem_of_getElem? (i := 1) rfl)), hcx.2.2.1 3 1 (by decide +kernel)⟩) rfl (by decide) (hts _ (List.mem_of_getElem? (i := 2) rfl)) (va_Nw.use rfl (hcx.2.1 3)) hce hcv hcl ?_
        refine lv_astore_n (lv' := [(3, .ref (q9)), (0, .ref (ax 0)), (1, .int x1), (2, .ref (ob))]) hx hb dL_announce_15 rfl hl (by decide) rfl (fun ls hl => ?_)
        refine lv_iconst (v := (2 : Int32)) hx hb dL_announce_16 (by decide) ?_
        rw [← Option.some.inj h]
        exact az_iretT hx hb hr hlocks hK hP hD hS dL_announce_17 (Nat.le_of_ble_eq_true rfl) (Nat.le_of_ble_eq_true rfl)
      · replace h := az_neg c1 h
        exact az_non h
  · replace h := az_pos n0 h
    refine lv_i2l (v := (o.2.1).toInt64) hx hb dL_announce_7 rfl ?_
    refine va_last (D := g.1) (f := f) hx hb hK hP hD hS 0 2 rfl rfl (az_vin (by decide +kernel)) dL_announce_8 (fun H locs hP hD hS => ?_)
    have hP : va_P g.1 az_cl (az_ou g ob (vp_updL f 0 (o.2.1).toInt64) :: az_wF g ax an au aw (va_up (va_up (va_up V 10 o.2.2.2.1) 11 o.2.2.2.2.1) 12 o.2.2.2.2.2.1) T o.2.2.1 o.2.2.2.2.2.2) _ := hP
    have hD : va_D A (az_ou g ob (vp_updL f 0 (o.2.1).toInt64) :: az_wF g ax an au aw (va_up (va_up (va_up V 10 o.2.2.2.1) 11 o.2.2.2.2.1) 12 o.2.2.2.2.2.1) T o.2.2.1 o.2.2.2.2.2.2) := hD
    refine lv_goto (tgt := 18) hx hb dL_announce_9 (by decide) ?_
    refine lv_iconst (v := (0 : Int32)) hx hb dL_announce_18 (by decide) ?_
    rw [← Option.some.inj h]
    exact az_iretT hx hb hr hlocks hK hP hD hS dL_announce_19 (Nat.le_of_ble_eq_true rfl) (Nat.le_of_ble_eq_true rfl)

def FL_hold (V T : az_St) (S : Nat → az_St) (hs : Nat → Int32) (f : Nat → Int64) (x1 : Int32) (x2 : Int32) : Option (Int32 × (Nat → Int64) × az_St × az_St × (Nat → az_St) × (Nat → Int32)) := (FX6_hold V T S hs x1 x2).bind (fun o => if o.1 = 0 then some ((0 : Int32), vp_updL f 0 (o.2.1).toInt64, (va_up V 10 o.2.2.2.1), T, o.2.2.1, o.2.2.2.2) else (if o.1 = 1 then some ((1 : Int32), f, (va_up V 10 o.2.2.2.1), T, o.2.2.1, o.2.2.2.2) else if o.1 = 3 then some ((2 : Int32), f, (va_up V 10 o.2.2.2.1), T, o.2.2.1, o.2.2.2.2) else if o.1 = 4 then some ((3 : Int32), f, (va_up V 10 o.2.2.2.1), T, o.2.2.1, o.2.2.2.2) else none))
set_option maxHeartbeats 8000000 in
set_option maxRecDepth 100000 in
theorem kL_hold (l : Launch) (hst : l.stackTraces = false) (g : az_G) (sa : Nat → Nat) (ax an au : Nat → Nat) (aw : Nat → Nat → Nat) (ob : Nat) (V T : az_St) (S : Nat → az_St) (hs : Nat → Int32) (f : Nat → Int64) (x1 : Int32) (x2 : Int32) (u : Int32 × (Nat → Int64) × az_St × az_St × (Nat → az_St) × (Nat → Int32)) (h : FL_hold V T S hs f x1 x2 = some u) : az_TI l yL_hold wsL_hold ({ frames := 9, cells := 4, slots := 24, locals := 187 } : Room) [.ref (ax 0), .int x1, .int x2, .ref ob] g sa (az_ou g ob f :: az_wF g ax an au aw V T S hs) 0 u.1 (az_ou g ob u.2.1 :: az_wF g ax an au aw u.2.2.1 u.2.2.2.1 u.2.2.2.2.1 u.2.2.2.2.2) 4 := by
  refine az_bodyTW (cc := cL_hold) (maxL := 5) (ret := (some .int)) (mc := 4) (ms := 24) (Qc := fun A => az_QTI g (az_ou g ob u.2.1 :: az_wF g ax an au aw u.2.2.1 u.2.2.2.1 u.2.2.2.2.1 u.2.2.2.2.2) 0 u.1 A) (XC := fun A => az_XT g (az_ou g ob u.2.1 :: az_wF g ax an au aw u.2.2.1 u.2.2.2.1 u.2.2.2.2.1 u.2.2.2.2.2) 0 A) (by decide +kernel) rfl (Nat.le_of_ble_eq_true rfl) ?_
  intro p e s m args below meth c A hx hb hr hts hown hml hlocks htab hcx hA hK hP hD hS ls hl
  have hl : lv_has ls 5 [(0, .ref (ax 0)), (1, .int x1), (2, .int x2), (3, .ref (ob))] := hl
  unfold FL_hold at h
  obtain ⟨o, hc9, h⟩ := az_bnd h
  refine lv_aload_n hx hb dL_hold_0 rfl (lv_at hl 3 rfl) ?_
  refine lv_iconst (v := (0 : Int32)) hx hb dL_hold_1 (by decide) ?_
  refine lv_aload_n hx hb dL_hold_2 rfl (lv_at hl 0 rfl) ?_
  refine lv_iload_n hx hb dL_hold_3 rfl (lv_at hl 1 rfl) ?_
  refine lv_iload_n hx hb dL_hold_4 rfl (lv_at hl 2 rfl) ?_
  refine az_callPTi (wr := [az_ou g ob f]) (w2 := az_ou g ob f :: az_wF g ax an au aw (va_up V 10 o.2.2.2.1) T o.2.2.1 o.2.2.2.2) (As := [.int x1, .int x2]) (rest := [.int (0 : Int32), .ref (ob)]) ⟨hx, hb, hml, hown, hts⟩ hl.1 (kX6_hold l hst g sa ax an au aw V T S hs x1 x2 o hc9) (cwV 2 hts gL_hold_X6_hold rfl rfl rfl (by decide +kernel) ⟨(Nat.le_of_ble_eq_true rfl), (Nat.le_of_ble_eq_true rfl)⟩) rfl hK hcx hP hD hS hA (List.perm_append_singleton _ _).symm (List.perm_append_singleton _ _) 0 rfl rfl rfl (Nat.le_of_ble_eq_true rfl) dL_hold_5 ⟨(Nat.le_of_ble_eq_true rfl), (Nat.le_of_ble_eq_true rfl)⟩ rfl (fun n0 ce q9 H locs hP hD hS hce hcv hcl => ?_) (fun n0 H locs hP hD hS => ?_)
  · replace h := az_neg n0 h
    by_cases c0 : o.1 = 1
    · replace h := az_pos c0 h
      rw [c0] at hcl
      refine vx_catch (E := "java/lang/IndexOutOfBoundsException") (name := "java/lang/IndexOutOfBoundsException") hown [] (⟨0, 10, 13, 19⟩ : ExceptionTableEntry) [(⟨0, 10, 17, 21⟩ : ExceptionTableEntry), (⟨0, 10, 21, 27⟩ : ExceptionTableEntry)] (htab.trans rfl) (fun z hz => absurd hz List.not_mem_nil) rfl (by decide) (hts _ (List.mem_of_getElem? (i := 1) rfl)) (va_Nw.use rfl (hcx.2.1 1)) hce hcv hcl ?_
      refine lv_astore (lv' := [(4, .ref (q9)), (0, .ref (ax 0)), (1, .int x1), (2, .int x2), (3, .ref (ob))]) hx hb dL_hold_13 hl (by decide) rfl (fun ls hl => ?_)
      refine lv_iconst (v := (1 : Int32)) hx hb dL_hold_15 (by decide) ?_
      rw [← Option.some.inj h]
      exact az_iretT hx hb hr hlocks hK hP hD hS dL_hold_16 (Nat.le_of_ble_eq_true rfl) (Nat.le_of_ble_eq_true rfl)
    · replace h := az_neg c0 h
      by_cases c1 : o.1 = 3
      · replace h := az_pos c1 h
        rw [c1] at hcl
        refine vx_catch (E := "java/lang/IllegalStateException") (name := "java/lang/IllegalStateException") hown [(⟨0, 10, 13, 19⟩ : ExceptionTableEntry)] (⟨0, 10, 17, 21⟩ : ExceptionTableEntry) [(⟨0, 10, 21, 27⟩ : ExceptionTableEntry)] (htab.trans rfl) (fun z hz => by simp only [List.mem_cons, List.not_mem_nil, or_false] at hz; rcases hz with rfl; · exact Or.inr ⟨by decide, "java/lang/IndexOutOfBoundsException", (hts _ (List.mem_of_getElem? (i := 1) rfl)), hcx.2.2.1 3 1 (by decide +kernel)⟩) rfl (by decide) (hts _ (List.mem_of_getElem? (i := 2) rfl)) (va_Nw.use rfl (hcx.2.1 3)) hce hcv hcl ?_
        refine lv_astore (lv' := [(4, .ref (q9)), (0, .ref (ax 0)), (1, .int x1), (2, .int x2), (3, .ref (ob))]) hx hb dL_hold_17 hl (by decide) rfl (fun ls hl => ?_)
        refine lv_iconst (v := (2 : Int32)) hx hb dL_hold_19 (by decide) ?_
        rw [← Option.some.inj h]
        exact az_iretT hx hb hr hlocks hK hP hD hS dL_hold_20 (Nat.le_of_ble_eq_true rfl) (Nat.le_of_ble_eq_true rfl)
      · replace h := az_neg c1 h
        by_cases c2 : o.1 = 4
        · replace h := az_pos c2 h
          rw [c2] at hcl
          refine vx_catch (E := "java/util/NoSuchElementException") (name := "java/util/NoSuchElementException") hown [(⟨0, 10, 13, 19⟩ : ExceptionTableEntry), (⟨0, 10, 17, 21⟩ : ExceptionTableEntry)] (⟨0, 10, 21, 27⟩ : ExceptionTableEntry) [] (htab.trans rfl) (fun z hz => by
            simp only [List.mem_cons, List.not_mem_nil, or_false] at hz
            rcases hz with rfl | rfl
            · exact Or.inr ⟨by decide, "java/lang/IndexOutOfBoundsException", (hts _ (List.mem_of_getElem? (i := 1) rfl)), hcx.2.2.1 4 1 (by decide +kernel)⟩
            · exact Or.inr ⟨by decide, "java/lang/IllegalStateException", (hts _ (List.mem_of_getElem? (i := 2) rfl)), hcx.2.2.1 4 3 (by decide +kernel)⟩) rfl (by decide) (hts _ (List.mem_of_getElem? (i := 3) rfl)) (va_Nw.use rfl (hcx.2.1 4)) hce hcv hcl ?_
          refine lv_astore (lv' := [(4, .ref (q9)), (0, .ref (ax 0)), (1, .int x1), (2, .int x2), (3, .ref (ob))]) hx hb dL_hold_21 hl (by decide) rfl (fun ls hl => ?_)
          refine lv_iconst (v := (3 : Int32)) hx hb dL_hold_23 (by decide) ?_
          rw [← Option.some.inj h]
          exact az_iretT hx hb hr hlocks hK hP hD hS dL_hold_24 (Nat.le_of_ble_eq_true rfl) (Nat.le_of_ble_eq_true rfl)
        · replace h := az_neg c2 h
          exact az_non h
  · replace h := az_pos n0 h
    refine lv_i2l (v := (o.2.1).toInt64) hx hb dL_hold_8 rfl ?_
    refine va_last (D := g.1) (f := f) hx hb hK hP hD hS 0 2 rfl rfl (az_vin (by decide +kernel)) dL_hold_9 (fun H locs hP hD hS => ?_)
    have hP : va_P g.1 az_cl (az_ou g ob (vp_updL f 0 (o.2.1).toInt64) :: az_wF g ax an au aw (va_up V 10 o.2.2.2.1) T o.2.2.1 o.2.2.2.2) _ := hP
    have hD : va_D A (az_ou g ob (vp_updL f 0 (o.2.1).toInt64) :: az_wF g ax an au aw (va_up V 10 o.2.2.2.1) T o.2.2.1 o.2.2.2.2) := hD
    refine lv_goto (tgt := 25) hx hb dL_hold_10 (by decide) ?_
    refine lv_iconst (v := (0 : Int32)) hx hb dL_hold_25 (by decide) ?_
    rw [← Option.some.inj h]
    exact az_iretT hx hb hr hlocks hK hP hD hS dL_hold_26 (Nat.le_of_ble_eq_true rfl) (Nat.le_of_ble_eq_true rfl)

def FL_release (V T : az_St) (S : Nat → az_St) (hs : Nat → Int32) (f : Nat → Int64) (x1 : Int32) (x2 : Int32) : Option (Int32 × (Nat → Int64) × az_St × az_St × (Nat → az_St) × (Nat → Int32)) := (FX6_release V T S hs x1 x2).bind (fun o => if o.1 = 0 then some ((0 : Int32), vp_updL f 0 (o.2.1).toInt64, (va_up V 10 o.2.2.2.1), T, o.2.2.1, o.2.2.2.2) else (if o.1 = 1 then some ((1 : Int32), f, (va_up V 10 o.2.2.2.1), T, o.2.2.1, o.2.2.2.2) else if o.1 = 4 then some ((2 : Int32), f, (va_up V 10 o.2.2.2.1), T, o.2.2.1, o.2.2.2.2) else none))
set_option maxHeartbeats 8000000 in
set_option maxRecDepth 100000 in
theorem kL_release (l : Launch) (hst : l.stackTraces = false) (g : az_G) (sa : Nat → Nat) (ax an au : Nat → Nat) (aw : Nat → Nat → Nat) (ob : Nat) (V T : az_St) (S : Nat → az_St) (hs : Nat → Int32) (f : Nat → Int64) (x1 : Int32) (x2 : Int32) (u : Int32 × (Nat → Int64) × az_St × az_St × (Nat → az_St) × (Nat → Int32)) (h : FL_release V T S hs f x1 x2 = some u) : az_TI l yL_release wsL_release ({ frames := 10, cells := 3, slots := 18, locals := 186 } : Room) [.ref (ax 0), .int x1, .int x2, .ref ob] g sa (az_ou g ob f :: az_wF g ax an au aw V T S hs) 0 u.1 (az_ou g ob u.2.1 :: az_wF g ax an au aw u.2.2.1 u.2.2.2.1 u.2.2.2.2.1 u.2.2.2.2.2) 3 := by
  refine az_bodyTW (cc := cL_release) (maxL := 5) (ret := (some .int)) (mc := 3) (ms := 18) (Qc := fun A => az_QTI g (az_ou g ob u.2.1 :: az_wF g ax an au aw u.2.2.1 u.2.2.2.1 u.2.2.2.2.1 u.2.2.2.2.2) 0 u.1 A) (XC := fun A => az_XT g (az_ou g ob u.2.1 :: az_wF g ax an au aw u.2.2.1 u.2.2.2.1 u.2.2.2.2.1 u.2.2.2.2.2) 0 A) (by decide +kernel) rfl (Nat.le_of_ble_eq_true rfl) ?_
  intro p e s m args below meth c A hx hb hr hts hown hml hlocks htab hcx hA hK hP hD hS ls hl
  have hl : lv_has ls 5 [(0, .ref (ax 0)), (1, .int x1), (2, .int x2), (3, .ref (ob))] := hl
  unfold FL_release at h
  obtain ⟨o, hc9, h⟩ := az_bnd h
  refine lv_aload_n hx hb dL_release_0 rfl (lv_at hl 3 rfl) ?_
  refine lv_iconst (v := (0 : Int32)) hx hb dL_release_1 (by decide) ?_
  refine lv_aload_n hx hb dL_release_2 rfl (lv_at hl 0 rfl) ?_
  refine lv_iload_n hx hb dL_release_3 rfl (lv_at hl 1 rfl) ?_
  refine lv_iload_n hx hb dL_release_4 rfl (lv_at hl 2 rfl) ?_
  refine az_callPTi (wr := [az_ou g ob f]) (w2 := az_ou g ob f :: az_wF g ax an au aw (va_up V 10 o.2.2.2.1) T o.2.2.1 o.2.2.2.2) (As := [.int x1, .int x2]) (rest := [.int (0 : Int32), .ref (ob)]) ⟨hx, hb, hml, hown, hts⟩ hl.1 (kX6_release l hst g sa ax an au aw V T S hs x1 x2 o hc9) (cwV 2 hts gL_release_X6_release rfl rfl rfl (by decide +kernel) ⟨(Nat.le_of_ble_eq_true rfl), (Nat.le_of_ble_eq_true rfl)⟩) rfl hK hcx hP hD hS hA (List.perm_append_singleton _ _).symm (List.perm_append_singleton _ _) 0 rfl rfl rfl (Nat.le_of_ble_eq_true rfl) dL_release_5 ⟨(Nat.le_of_ble_eq_true rfl), (Nat.le_of_ble_eq_true rfl)⟩ rfl (fun n0 ce q9 H locs hP hD hS hce hcv hcl => ?_) (fun n0 H locs hP hD hS => ?_)
  · replace h := az_neg n0 h
    by_cases c0 : o.1 = 1
    · replace h := az_pos c0 h
      rw [c0] at hcl
      refine vx_catch (E := "java/lang/IndexOutOfBoundsException") (name := "java/lang/IndexOutOfBoundsException") hown [] (⟨0, 10, 13, 19⟩ : ExceptionTableEntry) [(⟨0, 10, 17, 27⟩ : ExceptionTableEntry)] (htab.trans rfl) (fun z hz => absurd hz List.not_mem_nil) rfl (by decide) (hts _ (List.mem_of_getElem? (i := 1) rfl)) (va_Nw.use rfl (hcx.2.1 1)) hce hcv hcl ?_
      refine lv_astore (lv' := [(4, .ref (q9)), (0, .ref (ax 0)), (1, .int x1), (2, .int x2), (3, .ref (ob))]) hx hb dL_release_13 hl (by decide) rfl (fun ls hl => ?_)
      refine lv_iconst (v := (1 : Int32)) hx hb dL_release_15 (by decide) ?_
      rw [← Option.some.inj h]
      exact az_iretT hx hb hr hlocks hK hP hD hS dL_release_16 (Nat.le_of_ble_eq_true rfl) (Nat.le_of_ble_eq_true rfl)
    · replace h := az_neg c0 h
      by_cases c1 : o.1 = 4
      · replace h := az_pos c1 h
        rw [c1] at hcl
        refine vx_catch (E := "java/util/NoSuchElementException") (name := "java/util/NoSuchElementException") hown [(⟨0, 10, 13, 19⟩ : ExceptionTableEntry)] (⟨0, 10, 17, 27⟩ : ExceptionTableEntry) [] (htab.trans rfl) (fun z hz => by simp only [List.mem_cons, List.not_mem_nil, or_false] at hz; rcases hz with rfl; · exact Or.inr ⟨by decide, "java/lang/IndexOutOfBoundsException", (hts _ (List.mem_of_getElem? (i := 1) rfl)), hcx.2.2.1 4 1 (by decide +kernel)⟩) rfl (by decide) (hts _ (List.mem_of_getElem? (i := 2) rfl)) (va_Nw.use rfl (hcx.2.1 4)) hce hcv hcl ?_
        refine lv_astore (lv' := [(4, .ref (q9)), (0, .ref (ax 0)), (1, .int x1), (2, .int x2), (3, .ref (ob))]) hx hb dL_release_17 hl (by decide) rfl (fun ls hl => ?_)
        refine lv_iconst (v := (2 : Int32)) hx hb dL_release_19 (by decide) ?_
        rw [← Option.some.inj h]
        exact az_iretT hx hb hr hlocks hK hP hD hS dL_release_20 (Nat.le_of_ble_eq_true rfl) (Nat.le_of_ble_eq_true rfl)
      · replace h := az_neg c1 h
        exact az_non h
  · replace h := az_pos n0 h
    refine lv_i2l (v := (o.2.1).toInt64) hx hb dL_release_8 rfl ?_
    refine va_last (D := g.1) (f := f) hx hb hK hP hD hS 0 2 rfl rfl (az_vin (by decide +kernel)) dL_release_9 (fun H locs hP hD hS => ?_)
    have hP : va_P g.1 az_cl (az_ou g ob (vp_updL f 0 (o.2.1).toInt64) :: az_wF g ax an au aw (va_up V 10 o.2.2.2.1) T o.2.2.1 o.2.2.2.2) _ := hP
    have hD : va_D A (az_ou g ob (vp_updL f 0 (o.2.1).toInt64) :: az_wF g ax an au aw (va_up V 10 o.2.2.2.1) T o.2.2.1 o.2.2.2.2) := hD
    refine lv_goto (tgt := 21) hx hb dL_release_10 (by decide) ?_
    refine lv_iconst (v := (0 : Int32)) hx hb dL_release_21 (by decide) ?_
    rw [← Option.some.inj h]
    exact az_iretT hx hb hr hlocks hK hP hD hS dL_release_22 (Nat.le_of_ble_eq_true rfl) (Nat.le_of_ble_eq_true rfl)

def FL_read (V T : az_St) (S : Nat → az_St) (hs : Nat → Int32) (f : Nat → Int64) (x1 : Int32) (x2 : Int32) : Option (Int32 × (Nat → Int64) × az_St × az_St × (Nat → az_St) × (Nat → Int32)) := (FX6_read V x1 x2).bind (fun o => if o.1 = 0 then some ((0 : Int32), vp_updL f 0 (o.2).toInt64, V, T, S, hs) else (if o.1 = 1 then some ((1 : Int32), f, V, T, S, hs) else if o.1 = 4 then some ((2 : Int32), f, V, T, S, hs) else none))
set_option maxHeartbeats 8000000 in
set_option maxRecDepth 100000 in
theorem kL_read (l : Launch) (hst : l.stackTraces = false) (g : az_G) (sa : Nat → Nat) (ax an au : Nat → Nat) (aw : Nat → Nat → Nat) (ob : Nat) (V T : az_St) (S : Nat → az_St) (hs : Nat → Int32) (f : Nat → Int64) (x1 : Int32) (x2 : Int32) (u : Int32 × (Nat → Int64) × az_St × az_St × (Nat → az_St) × (Nat → Int32)) (h : FL_read V T S hs f x1 x2 = some u) : az_TI l yL_read wsL_read ({ frames := 10, cells := 3, slots := 18, locals := 185 } : Room) [.ref (ax 0), .int x1, .int x2, .ref ob] g sa (az_ou g ob f :: az_wF g ax an au aw V T S hs) 0 u.1 (az_ou g ob u.2.1 :: az_wF g ax an au aw u.2.2.1 u.2.2.2.1 u.2.2.2.2.1 u.2.2.2.2.2) 3 := by
  refine az_bodyTW (cc := cL_read) (maxL := 5) (ret := (some .int)) (mc := 3) (ms := 18) (Qc := fun A => az_QTI g (az_ou g ob u.2.1 :: az_wF g ax an au aw u.2.2.1 u.2.2.2.1 u.2.2.2.2.1 u.2.2.2.2.2) 0 u.1 A) (XC := fun A => az_XT g (az_ou g ob u.2.1 :: az_wF g ax an au aw u.2.2.1 u.2.2.2.1 u.2.2.2.2.1 u.2.2.2.2.2) 0 A) (by decide +kernel) rfl (Nat.le_of_ble_eq_true rfl) ?_
  intro p e s m args below meth c A hx hb hr hts hown hml hlocks htab hcx hA hK hP hD hS ls hl
  have hl : lv_has ls 5 [(0, .ref (ax 0)), (1, .int x1), (2, .int x2), (3, .ref (ob))] := hl
  unfold FL_read at h
  obtain ⟨o, hc9, h⟩ := az_bnd h
  refine lv_aload_n hx hb dL_read_0 rfl (lv_at hl 3 rfl) ?_
  refine lv_iconst (v := (0 : Int32)) hx hb dL_read_1 (by decide) ?_
  refine lv_aload_n hx hb dL_read_2 rfl (lv_at hl 0 rfl) ?_
  refine lv_iload_n hx hb dL_read_3 rfl (lv_at hl 1 rfl) ?_
  refine lv_iload_n hx hb dL_read_4 rfl (lv_at hl 2 rfl) ?_
  refine az_callPTi (wr := [az_ou g ob f]) (w2 := az_ou g ob f :: az_wF g ax an au aw V T S hs) (As := [.int x1, .int x2]) (rest := [.int (0 : Int32), .ref (ob)]) ⟨hx, hb, hml, hown, hts⟩ hl.1 (kX6_read l hst g sa ax an au (az_cV g au T ++ az_cH g ax aw S hs) V x1 x2 o hc9) (cwV 2 hts gL_read_X6_read rfl rfl rfl (by decide +kernel) ⟨(Nat.le_of_ble_eq_true rfl), (Nat.le_of_ble_eq_true rfl)⟩) rfl hK hcx hP hD hS hA (List.perm_append_singleton _ _).symm (List.perm_append_singleton _ _) 0 rfl rfl rfl (Nat.le_of_ble_eq_true rfl) dL_read_5 ⟨(Nat.le_of_ble_eq_true rfl), (Nat.le_of_ble_eq_true rfl)⟩ rfl (fun n0 ce q9 H locs hP hD hS hce hcv hcl => ?_) (fun n0 H locs hP hD hS => ?_)
  · replace h := az_neg n0 h
    by_cases c0 : o.1 = 1
    · replace h := az_pos c0 h
      rw [c0] at hcl
      refine vx_catch (E := "java/lang/IndexOutOfBoundsException") (name := "java/lang/IndexOutOfBoundsException") hown [] (⟨0, 10, 13, 19⟩ : ExceptionTableEntry) [(⟨0, 10, 17, 27⟩ : ExceptionTableEntry)] (htab.trans rfl) (fun z hz => absurd hz List.not_mem_nil) rfl (by decide) (hts _ (List.mem_of_getElem? (i := 1) rfl)) (va_Nw.use rfl (hcx.2.1 1)) hce hcv hcl ?_
      refine lv_astore (lv' := [(4, .ref (q9)), (0, .ref (ax 0)), (1, .int x1), (2, .int x2), (3, .ref (ob))]) hx hb dL_read_13 hl (by decide) rfl (fun ls hl => ?_)
      refine lv_iconst (v := (1 : Int32)) hx hb dL_read_15 (by decide) ?_
      rw [← Option.some.inj h]
      exact az_iretT hx hb hr hlocks hK hP hD hS dL_read_16 (Nat.le_of_ble_eq_true rfl) (Nat.le_of_ble_eq_true rfl)
    · replace h := az_neg c0 h
      by_cases c1 : o.1 = 4
      · replace h := az_pos c1 h
        rw [c1] at hcl
        refine vx_catch (E := "java/util/NoSuchElementException") (name := "java/util/NoSuchElementException") hown [(⟨0, 10, 13, 19⟩ : ExceptionTableEntry)] (⟨0, 10, 17, 27⟩ : ExceptionTableEntry) [] (htab.trans rfl) (fun z hz => by simp only [List.mem_cons, List.not_mem_nil, or_false] at hz; rcases hz with rfl; · exact Or.inr ⟨by decide, "java/lang/IndexOutOfBoundsException", (hts _ (List.mem_of_getElem? (i := 1) rfl)), hcx.2.2.1 4 1 (by decide +kernel)⟩) rfl (by decide) (hts _ (List.mem_of_getElem? (i := 2) rfl)) (va_Nw.use rfl (hcx.2.1 4)) hce hcv hcl ?_
        refine lv_astore (lv' := [(4, .ref (q9)), (0, .ref (ax 0)), (1, .int x1), (2, .int x2), (3, .ref (ob))]) hx hb dL_read_17 hl (by decide) rfl (fun ls hl => ?_)
        refine lv_iconst (v := (2 : Int32)) hx hb dL_read_19 (by decide) ?_
        rw [← Option.some.inj h]
        exact az_iretT hx hb hr hlocks hK hP hD hS dL_read_20 (Nat.le_of_ble_eq_true rfl) (Nat.le_of_ble_eq_true rfl)
      · replace h := az_neg c1 h
        exact az_non h
  · replace h := az_pos n0 h
    refine lv_i2l (v := (o.2).toInt64) hx hb dL_read_8 rfl ?_
    refine va_last (D := g.1) (f := f) hx hb hK hP hD hS 0 2 rfl rfl (az_vin (by decide +kernel)) dL_read_9 (fun H locs hP hD hS => ?_)
    have hP : va_P g.1 az_cl (az_ou g ob (vp_updL f 0 (o.2).toInt64) :: az_wF g ax an au aw V T S hs) _ := hP
    have hD : va_D A (az_ou g ob (vp_updL f 0 (o.2).toInt64) :: az_wF g ax an au aw V T S hs) := hD
    refine lv_goto (tgt := 21) hx hb dL_read_10 (by decide) ?_
    refine lv_iconst (v := (0 : Int32)) hx hb dL_read_21 (by decide) ?_
    rw [← Option.some.inj h]
    exact az_iretT hx hb hr hlocks hK hP hD hS dL_read_22 (Nat.le_of_ble_eq_true rfl) (Nat.le_of_ble_eq_true rfl)

def FL_reader (V T : az_St) (S : Nat → az_St) (hs : Nat → Int32) (f : Nat → Int64) (x1 : Int32) (x2 : Int32) : Option (Int32 × (Nat → Int64) × az_St × az_St × (Nat → az_St) × (Nat → Int32)) := (FX6_reader V x1 x2).bind (fun o => if o.1 = 0 then some ((0 : Int32), vp_updL f 0 (o.2).toInt64, V, T, S, hs) else (if o.1 = 1 then some ((1 : Int32), f, V, T, S, hs) else if o.1 = 2 then some ((2 : Int32), f, V, T, S, hs) else none))
set_option maxHeartbeats 8000000 in
set_option maxRecDepth 100000 in
theorem kL_reader (l : Launch) (hst : l.stackTraces = false) (g : az_G) (sa : Nat → Nat) (ax an au : Nat → Nat) (aw : Nat → Nat → Nat) (ob : Nat) (V T : az_St) (S : Nat → az_St) (hs : Nat → Int32) (f : Nat → Int64) (x1 : Int32) (x2 : Int32) (u : Int32 × (Nat → Int64) × az_St × az_St × (Nat → az_St) × (Nat → Int32)) (h : FL_reader V T S hs f x1 x2 = some u) : az_TI l yL_reader wsL_reader ({ frames := 9, cells := 2, slots := 12, locals := 162 } : Room) [.ref (ax 0), .int x1, .int x2, .ref ob] g sa (az_ou g ob f :: az_wF g ax an au aw V T S hs) 0 u.1 (az_ou g ob u.2.1 :: az_wF g ax an au aw u.2.2.1 u.2.2.2.1 u.2.2.2.2.1 u.2.2.2.2.2) 2 := by
  refine az_bodyTW (cc := cL_reader) (maxL := 5) (ret := (some .int)) (mc := 2) (ms := 12) (Qc := fun A => az_QTI g (az_ou g ob u.2.1 :: az_wF g ax an au aw u.2.2.1 u.2.2.2.1 u.2.2.2.2.1 u.2.2.2.2.2) 0 u.1 A) (XC := fun A => az_XT g (az_ou g ob u.2.1 :: az_wF g ax an au aw u.2.2.1 u.2.2.2.1 u.2.2.2.2.1 u.2.2.2.2.2) 0 A) (by decide +kernel) rfl (Nat.le_of_ble_eq_true rfl) ?_
  intro p e s m args below meth c A hx hb hr hts hown hml hlocks htab hcx hA hK hP hD hS ls hl
  have hl : lv_has ls 5 [(0, .ref (ax 0)), (1, .int x1), (2, .int x2), (3, .ref (ob))] := hl
  unfold FL_reader at h
  obtain ⟨o, hc9, h⟩ := az_bnd h
  refine lv_aload_n hx hb dL_reader_0 rfl (lv_at hl 3 rfl) ?_
  refine lv_iconst (v := (0 : Int32)) hx hb dL_reader_1 (by decide) ?_
  refine lv_aload_n hx hb dL_reader_2 rfl (lv_at hl 0 rfl) ?_
  refine lv_iload_n hx hb dL_reader_3 rfl (lv_at hl 1 rfl) ?_
  refine lv_iload_n hx hb dL_reader_4 rfl (lv_at hl 2 rfl) ?_
  refine az_callPTi (wr := [az_ou g ob f]) (w2 := az_ou g ob f :: az_wF g ax an au aw V T S hs) (As := [.int x1, .int x2]) (rest := [.int (0 : Int32), .ref (ob)]) ⟨hx, hb, hml, hown, hts⟩ hl.1 (kX6_reader l hst g sa ax an au (az_cV g au T ++ az_cH g ax aw S hs) V x1 x2 o hc9) (cwV 2 hts gL_reader_X6_reader rfl rfl rfl (by decide +kernel) ⟨(Nat.le_of_ble_eq_true rfl), (Nat.le_of_ble_eq_true rfl)⟩) rfl hK hcx hP hD hS hA (List.perm_append_singleton _ _).symm (List.perm_append_singleton _ _) 0 rfl rfl rfl (Nat.le_of_ble_eq_true rfl) dL_reader_5 ⟨(Nat.le_of_ble_eq_true rfl), (Nat.le_of_ble_eq_true rfl)⟩ rfl (fun n0 ce q9 H locs hP hD hS hce hcv hcl => ?_) (fun n0 H locs hP hD hS => ?_)
  · replace h := az_neg n0 h
    by_cases c0 : o.1 = 1
    · replace h := az_pos c0 h
      rw [c0] at hcl
      refine vx_catch (E := "java/lang/IndexOutOfBoundsException") (name := "java/lang/IndexOutOfBoundsException") hown [] (⟨0, 10, 13, 19⟩ : ExceptionTableEntry) [(⟨0, 10, 17, 13⟩ : ExceptionTableEntry)] (htab.trans rfl) (fun z hz => absurd hz List.not_mem_nil) rfl (by decide) (hts _ (List.mem_of_getElem? (i := 1) rfl)) (va_Nw.use rfl (hcx.2.1 1)) hce hcv hcl ?_
      refine lv_astore (lv' := [(4, .ref (q9)), (0, .ref (ax 0)), (1, .int x1), (2, .int x2), (3, .ref (ob))]) hx hb dL_reader_13 hl (by decide) rfl (fun ls hl => ?_)
      refine lv_iconst (v := (1 : Int32)) hx hb dL_reader_15 (by decide) ?_
      rw [← Option.some.inj h]
      exact az_iretT hx hb hr hlocks hK hP hD hS dL_reader_16 (Nat.le_of_ble_eq_true rfl) (Nat.le_of_ble_eq_true rfl)
    · replace h := az_neg c0 h
      by_cases c1 : o.1 = 2
      · replace h := az_pos c1 h
        rw [c1] at hcl
        refine vx_catch (E := "java/lang/IllegalArgumentException") (name := "java/lang/IllegalArgumentException") hown [(⟨0, 10, 13, 19⟩ : ExceptionTableEntry)] (⟨0, 10, 17, 13⟩ : ExceptionTableEntry) [] (htab.trans rfl) (fun z hz => by simp only [List.mem_cons, List.not_mem_nil, or_false] at hz; rcases hz with rfl; · exact Or.inr ⟨by decide, "java/lang/IndexOutOfBoundsException", (hts _ (List.mem_of_getElem? (i := 1) rfl)), hcx.2.2.1 2 1 (by decide +kernel)⟩) rfl (by decide) (hts _ (List.mem_of_getElem? (i := 2) rfl)) (va_Nw.use rfl (hcx.2.1 2)) hce hcv hcl ?_
        refine lv_astore (lv' := [(4, .ref (q9)), (0, .ref (ax 0)), (1, .int x1), (2, .int x2), (3, .ref (ob))]) hx hb dL_reader_17 hl (by decide) rfl (fun ls hl => ?_)
        refine lv_iconst (v := (2 : Int32)) hx hb dL_reader_19 (by decide) ?_
        rw [← Option.some.inj h]
        exact az_iretT hx hb hr hlocks hK hP hD hS dL_reader_20 (Nat.le_of_ble_eq_true rfl) (Nat.le_of_ble_eq_true rfl)
      · replace h := az_neg c1 h
        exact az_non h
  · replace h := az_pos n0 h
    refine lv_i2l (v := (o.2).toInt64) hx hb dL_reader_8 rfl ?_
    refine va_last (D := g.1) (f := f) hx hb hK hP hD hS 0 2 rfl rfl (az_vin (by decide +kernel)) dL_reader_9 (fun H locs hP hD hS => ?_)
    have hP : va_P g.1 az_cl (az_ou g ob (vp_updL f 0 (o.2).toInt64) :: az_wF g ax an au aw V T S hs) _ := hP
    have hD : va_D A (az_ou g ob (vp_updL f 0 (o.2).toInt64) :: az_wF g ax an au aw V T S hs) := hD
    refine lv_goto (tgt := 21) hx hb dL_reader_10 (by decide) ?_
    refine lv_iconst (v := (0 : Int32)) hx hb dL_reader_21 (by decide) ?_
    rw [← Option.some.inj h]
    exact az_iretT hx hb hr hlocks hK hP hD hS dL_reader_22 (Nat.le_of_ble_eq_true rfl) (Nat.le_of_ble_eq_true rfl)

def FL_expel (V T : az_St) (S : Nat → az_St) (hs : Nat → Int32) (f : Nat → Int64) (x1 : Int32) : Option (Int32 × (Nat → Int64) × az_St × az_St × (Nat → az_St) × (Nat → Int32)) := (FX6_expel V T S hs x1).bind (fun o => if o.1 = 0 then some ((0 : Int32), vp_updL f 0 (o.2.1).toInt64, (va_up (va_up (va_up V 10 o.2.2.2.1) 11 o.2.2.2.2.1) 12 o.2.2.2.2.2.1), T, o.2.2.1, o.2.2.2.2.2.2) else (if o.1 = 1 then some ((1 : Int32), f, (va_up (va_up (va_up V 10 o.2.2.2.1) 11 o.2.2.2.2.1) 12 o.2.2.2.2.2.1), T, o.2.2.1, o.2.2.2.2.2.2) else if o.1 = 3 then some ((2 : Int32), f, (va_up (va_up (va_up V 10 o.2.2.2.1) 11 o.2.2.2.2.1) 12 o.2.2.2.2.2.1), T, o.2.2.1, o.2.2.2.2.2.2) else none))
set_option maxHeartbeats 8000000 in
set_option maxRecDepth 100000 in
theorem kL_expel (l : Launch) (hst : l.stackTraces = false) (g : az_G) (sa : Nat → Nat) (ax an au : Nat → Nat) (aw : Nat → Nat → Nat) (ob : Nat) (V T : az_St) (S : Nat → az_St) (hs : Nat → Int32) (f : Nat → Int64) (x1 : Int32) (u : Int32 × (Nat → Int64) × az_St × az_St × (Nat → az_St) × (Nat → Int32)) (h : FL_expel V T S hs f x1 = some u) : az_TI l yL_expel wsL_expel ({ frames := 9, cells := 3, slots := 18, locals := 185 } : Room) [.ref (ax 0), .int x1, .ref ob] g sa (az_ou g ob f :: az_wF g ax an au aw V T S hs) 0 u.1 (az_ou g ob u.2.1 :: az_wF g ax an au aw u.2.2.1 u.2.2.2.1 u.2.2.2.2.1 u.2.2.2.2.2) 3 := by
  refine az_bodyTW (cc := cL_expel) (maxL := 4) (ret := (some .int)) (mc := 3) (ms := 18) (Qc := fun A => az_QTI g (az_ou g ob u.2.1 :: az_wF g ax an au aw u.2.2.1 u.2.2.2.1 u.2.2.2.2.1 u.2.2.2.2.2) 0 u.1 A) (XC := fun A => az_XT g (az_ou g ob u.2.1 :: az_wF g ax an au aw u.2.2.1 u.2.2.2.1 u.2.2.2.2.1 u.2.2.2.2.2) 0 A) (by decide +kernel) rfl (Nat.le_of_ble_eq_true rfl) ?_
  intro p e s m args below meth c A hx hb hr hts hown hml hlocks htab hcx hA hK hP hD hS ls hl
  have hl : lv_has ls 4 [(0, .ref (ax 0)), (1, .int x1), (2, .ref (ob))] := hl
  unfold FL_expel at h
  obtain ⟨o, hc9, h⟩ := az_bnd h
  refine lv_aload_n hx hb dL_expel_0 rfl (lv_at hl 2 rfl) ?_
  refine lv_iconst (v := (0 : Int32)) hx hb dL_expel_1 (by decide) ?_
  refine lv_aload_n hx hb dL_expel_2 rfl (lv_at hl 0 rfl) ?_
  refine lv_iload_n hx hb dL_expel_3 rfl (lv_at hl 1 rfl) ?_
  refine az_callPTi (wr := [az_ou g ob f]) (w2 := az_ou g ob f :: az_wF g ax an au aw (va_up (va_up (va_up V 10 o.2.2.2.1) 11 o.2.2.2.2.1) 12 o.2.2.2.2.2.1) T o.2.2.1 o.2.2.2.2.2.2) (As := [.int x1]) (rest := [.int (0 : Int32), .ref (ob)]) ⟨hx, hb, hml, hown, hts⟩ hl.1 (kX6_expel l hst g sa ax an au aw V T S hs x1 o hc9) (cwV 1 hts gL_expel_X6_expel rfl rfl rfl (by decide +kernel) ⟨(Nat.le_of_ble_eq_true rfl), (Nat.le_of_ble_eq_true rfl)⟩) rfl hK hcx hP hD hS hA (List.perm_append_singleton _ _).symm (List.perm_append_singleton _ _) 0 rfl rfl rfl (Nat.le_of_ble_eq_true rfl) dL_expel_4 ⟨(Nat.le_of_ble_eq_true rfl), (Nat.le_of_ble_eq_true rfl)⟩ rfl (fun n0 ce q9 H locs hP hD hS hce hcv hcl => ?_) (fun n0 H locs hP hD hS => ?_)
  · replace h := az_neg n0 h
    by_cases c0 : o.1 = 1
    · replace h := az_pos c0 h
      rw [c0] at hcl
      refine vx_catch (E := "java/lang/IndexOutOfBoundsException") (name := "java/lang/IndexOutOfBoundsException") hown [] (⟨0, 9, 12, 19⟩ : ExceptionTableEntry) [(⟨0, 9, 15, 21⟩ : ExceptionTableEntry)] (htab.trans rfl) (fun z hz => absurd hz List.not_mem_nil) rfl (by decide) (hts _ (List.mem_of_getElem? (i := 1) rfl)) (va_Nw.use rfl (hcx.2.1 1)) hce hcv hcl ?_
      refine lv_astore_n (lv' := [(3, .ref (q9)), (0, .ref (ax 0)), (1, .int x1), (2, .ref (ob))]) hx hb dL_expel_12 rfl hl (by decide) rfl (fun ls hl => ?_)
      refine lv_iconst (v := (1 : Int32)) hx hb dL_expel_13 (by decide) ?_
      rw [← Option.some.inj h]
      exact az_iretT hx hb hr hlocks hK hP hD hS dL_expel_14 (Nat.le_of_ble_eq_true rfl) (Nat.le_of_ble_eq_true rfl)
    · replace h := az_neg c0 h
      by_cases c1 : o.1 = 3
      · replace h := az_pos c1 h
        rw [c1] at hcl
        refine vx_catch (E := "java/lang/IllegalStateException") (name := "java/lang/IllegalStateException") hown [(⟨0, 9, 12, 19⟩ : ExceptionTableEntry)] (⟨0, 9, 15, 21⟩ : ExceptionTableEntry) [] (htab.trans rfl) (fun z hz => by simp only [List.mem_cons, List.not_mem_nil, or_false] at hz; rcases hz with rfl; · exact Or.inr ⟨by decide, "java/lang/IndexOutOfBoundsException", (hts _ (List.mem_of_getElem? (i := 1) rfl)), hcx.2.2.1 3 1 (by decide +kernel)⟩) rfl (by decide) (hts _ (List.mem_of_getElem? (i := 2) rfl)) (va_Nw.use rfl (hcx.2.1 3)) hce hcv hcl ?_
        refine lv_astore_n (lv' := [(3, .ref (q9)), (0, .ref (ax 0)), (1, .int x1), (2, .ref (ob))]) hx hb dL_expel_15 rfl hl (by decide) rfl (fun ls hl => ?_)
        refine lv_iconst (v := (2 : Int32)) hx hb dL_expel_16 (by decide) ?_
        rw [← Option.some.inj h]
        exact az_iretT hx hb hr hlocks hK hP hD hS dL_expel_17 (Nat.le_of_ble_eq_true rfl) (Nat.le_of_ble_eq_true rfl)
      · replace h := az_neg c1 h
        exact az_non h
  · replace h := az_pos n0 h
    refine lv_i2l (v := (o.2.1).toInt64) hx hb dL_expel_7 rfl ?_
    refine va_last (D := g.1) (f := f) hx hb hK hP hD hS 0 2 rfl rfl (az_vin (by decide +kernel)) dL_expel_8 (fun H locs hP hD hS => ?_)
    have hP : va_P g.1 az_cl (az_ou g ob (vp_updL f 0 (o.2.1).toInt64) :: az_wF g ax an au aw (va_up (va_up (va_up V 10 o.2.2.2.1) 11 o.2.2.2.2.1) 12 o.2.2.2.2.2.1) T o.2.2.1 o.2.2.2.2.2.2) _ := hP
    have hD : va_D A (az_ou g ob (vp_updL f 0 (o.2.1).toInt64) :: az_wF g ax an au aw (va_up (va_up (va_up V 10 o.2.2.2.1) 11 o.2.2.2.2.1) 12 o.2.2.2.2.2.1) T o.2.2.1 o.2.2.2.2.2.2) := hD
    refine lv_goto (tgt := 18) hx hb dL_expel_9 (by decide) ?_
    refine lv_iconst (v := (0 : Int32)) hx hb dL_expel_18 (by decide) ?_
    rw [← Option.some.inj h]
    exact az_iretT hx hb hr hlocks hK hP hD hS dL_expel_19 (Nat.le_of_ble_eq_true rfl) (Nat.le_of_ble_eq_true rfl)

def FL_reclaimableWithout (V T : az_St) (S : Nat → az_St) (hs : Nat → Int32) (f : Nat → Int64) (x1 : Int32) : Option (Int32 × (Nat → Int64) × az_St × az_St × (Nat → az_St) × (Nat → Int32)) := (FX6_reclaimableWithout V x1).bind (fun o => if o.1 = 0 then some ((0 : Int32), vp_updL f 0 (o.2).toInt64, V, T, S, hs) else (if o.1 = 1 then some ((1 : Int32), f, V, T, S, hs) else none))
set_option maxHeartbeats 8000000 in
set_option maxRecDepth 100000 in
theorem kL_reclaimableWithout (l : Launch) (hst : l.stackTraces = false) (g : az_G) (sa : Nat → Nat) (ax an au : Nat → Nat) (aw : Nat → Nat → Nat) (ob : Nat) (V T : az_St) (S : Nat → az_St) (hs : Nat → Int32) (f : Nat → Int64) (x1 : Int32) (u : Int32 × (Nat → Int64) × az_St × az_St × (Nat → az_St) × (Nat → Int32)) (h : FL_reclaimableWithout V T S hs f x1 = some u) : az_TI l yL_reclaimableWithout wsL_reclaimableWithout ({ frames := 8, cells := 1, slots := 6, locals := 141 } : Room) [.ref (ax 0), .int x1, .ref ob] g sa (az_ou g ob f :: az_wF g ax an au aw V T S hs) 0 u.1 (az_ou g ob u.2.1 :: az_wF g ax an au aw u.2.2.1 u.2.2.2.1 u.2.2.2.2.1 u.2.2.2.2.2) 1 := by
  refine az_bodyTW (cc := cL_reclaimableWithout) (maxL := 4) (ret := (some .int)) (mc := 1) (ms := 6) (Qc := fun A => az_QTI g (az_ou g ob u.2.1 :: az_wF g ax an au aw u.2.2.1 u.2.2.2.1 u.2.2.2.2.1 u.2.2.2.2.2) 0 u.1 A) (XC := fun A => az_XT g (az_ou g ob u.2.1 :: az_wF g ax an au aw u.2.2.1 u.2.2.2.1 u.2.2.2.2.1 u.2.2.2.2.2) 0 A) (by decide +kernel) rfl (Nat.le_of_ble_eq_true rfl) ?_
  intro p e s m args below meth c A hx hb hr hts hown hml hlocks htab hcx hA hK hP hD hS ls hl
  have hl : lv_has ls 4 [(0, .ref (ax 0)), (1, .int x1), (2, .ref (ob))] := hl
  unfold FL_reclaimableWithout at h
  obtain ⟨o, hc9, h⟩ := az_bnd h
  refine lv_aload_n hx hb dL_reclaimableWithout_0 rfl (lv_at hl 2 rfl) ?_
  refine lv_iconst (v := (0 : Int32)) hx hb dL_reclaimableWithout_1 (by decide) ?_
  refine lv_aload_n hx hb dL_reclaimableWithout_2 rfl (lv_at hl 0 rfl) ?_
  refine lv_iload_n hx hb dL_reclaimableWithout_3 rfl (lv_at hl 1 rfl) ?_
  refine az_callPTi (wr := [az_ou g ob f]) (w2 := az_ou g ob f :: az_wF g ax an au aw V T S hs) (As := [.int x1]) (rest := [.int (0 : Int32), .ref (ob)]) ⟨hx, hb, hml, hown, hts⟩ hl.1 (kX6_reclaimableWithout l hst g sa ax an au (az_cV g au T ++ az_cH g ax aw S hs) V x1 o hc9) (cwV 1 hts gL_reclaimableWithout_X6_reclaimableWithout rfl rfl rfl (by decide +kernel) ⟨(Nat.le_of_ble_eq_true rfl), (Nat.le_of_ble_eq_true rfl)⟩) rfl hK hcx hP hD hS hA (List.perm_append_singleton _ _).symm (List.perm_append_singleton _ _) 0 rfl rfl rfl (Nat.le_of_ble_eq_true rfl) dL_reclaimableWithout_4 ⟨(Nat.le_of_ble_eq_true rfl), (Nat.le_of_ble_eq_true rfl)⟩ rfl (fun n0 ce q9 H locs hP hD hS hce hcv hcl => ?_) (fun n0 H locs hP hD hS => ?_)
  · replace h := az_neg n0 h
    by_cases c0 : o.1 = 1
    · replace h := az_pos c0 h
      rw [c0] at hcl
      refine vx_catch (E := "java/lang/IndexOutOfBoundsException") (name := "java/lang/IndexOutOfBoundsException") hown [] (⟨0, 9, 12, 19⟩ : ExceptionTableEntry) [] (htab.trans rfl) (fun z hz => absurd hz List.not_mem_nil) rfl (by decide) (hts _ (List.mem_of_getElem? (i := 1) rfl)) (va_Nw.use rfl (hcx.2.1 1)) hce hcv hcl ?_
      refine lv_astore_n (lv' := [(3, .ref (q9)), (0, .ref (ax 0)), (1, .int x1), (2, .ref (ob))]) hx hb dL_reclaimableWithout_12 rfl hl (by decide) rfl (fun ls hl => ?_)
      refine lv_iconst (v := (1 : Int32)) hx hb dL_reclaimableWithout_13 (by decide) ?_
      rw [← Option.some.inj h]
      exact az_iretT hx hb hr hlocks hK hP hD hS dL_reclaimableWithout_14 (Nat.le_of_ble_eq_true rfl) (Nat.le_of_ble_eq_true rfl)
    · replace h := az_neg c0 h
      exact az_non h
  · replace h := az_pos n0 h
    refine lv_i2l (v := (o.2).toInt64) hx hb dL_reclaimableWithout_7 rfl ?_
    refine va_last (D := g.1) (f := f) hx hb hK hP hD hS 0 2 rfl rfl (az_vin (by decide +kernel)) dL_reclaimableWithout_8 (fun H locs hP hD hS => ?_)
    have hP : va_P g.1 az_cl (az_ou g ob (vp_updL f 0 (o.2).toInt64) :: az_wF g ax an au aw V T S hs) _ := hP
    have hD : va_D A (az_ou g ob (vp_updL f 0 (o.2).toInt64) :: az_wF g ax an au aw V T S hs) := hD
    refine lv_goto (tgt := 15) hx hb dL_reclaimableWithout_9 (by decide) ?_
    refine lv_iconst (v := (0 : Int32)) hx hb dL_reclaimableWithout_15 (by decide) ?_
    rw [← Option.some.inj h]
    exact az_iretT hx hb hr hlocks hK hP hD hS dL_reclaimableWithout_16 (Nat.le_of_ble_eq_true rfl) (Nat.le_of_ble_eq_true rfl)

def FL_advance (V T : az_St) (S : Nat → az_St) (hs : Nat → Int32) (f : Nat → Int64)  : Option (Int32 × (Nat → Int64) × az_St × az_St × (Nat → az_St) × (Nat → Int32)) := (FX6_advance V T S hs ).bind (fun o => if o.1 = 0 then some ((0 : Int32), vp_updL f 0 (o.2.1).toInt64, (va_up V 16 o.2.2.2.1), T, o.2.2.1, o.2.2.2.2) else (if o.1 = 3 then some ((1 : Int32), f, (va_up V 16 o.2.2.2.1), T, o.2.2.1, o.2.2.2.2) else none))
set_option maxHeartbeats 8000000 in
set_option maxRecDepth 100000 in
theorem kL_advance (l : Launch) (hst : l.stackTraces = false) (g : az_G) (sa : Nat → Nat) (ax an au : Nat → Nat) (aw : Nat → Nat → Nat) (ob : Nat) (V T : az_St) (S : Nat → az_St) (hs : Nat → Int32) (f : Nat → Int64)  (u : Int32 × (Nat → Int64) × az_St × az_St × (Nat → az_St) × (Nat → Int32)) (h : FL_advance V T S hs f  = some u) : az_TI l yL_advance wsL_advance ({ frames := 8, cells := 1, slots := 6, locals := 184 } : Room) [.ref (ax 0), .ref ob] g sa (az_ou g ob f :: az_wF g ax an au aw V T S hs) 0 u.1 (az_ou g ob u.2.1 :: az_wF g ax an au aw u.2.2.1 u.2.2.2.1 u.2.2.2.2.1 u.2.2.2.2.2) 1 := by
  refine az_bodyTW (cc := cL_advance) (maxL := 3) (ret := (some .int)) (mc := 1) (ms := 6) (Qc := fun A => az_QTI g (az_ou g ob u.2.1 :: az_wF g ax an au aw u.2.2.1 u.2.2.2.1 u.2.2.2.2.1 u.2.2.2.2.2) 0 u.1 A) (XC := fun A => az_XT g (az_ou g ob u.2.1 :: az_wF g ax an au aw u.2.2.1 u.2.2.2.1 u.2.2.2.2.1 u.2.2.2.2.2) 0 A) (by decide +kernel) rfl (Nat.le_of_ble_eq_true rfl) ?_
  intro p e s m args below meth c A hx hb hr hts hown hml hlocks htab hcx hA hK hP hD hS ls hl
  have hl : lv_has ls 3 [(0, .ref (ax 0)), (1, .ref (ob))] := hl
  unfold FL_advance at h
  obtain ⟨o, hc9, h⟩ := az_bnd h
  refine lv_aload_n hx hb dL_advance_0 rfl (lv_at hl 1 rfl) ?_
  refine lv_iconst (v := (0 : Int32)) hx hb dL_advance_1 (by decide) ?_
  refine lv_aload_n hx hb dL_advance_2 rfl (lv_at hl 0 rfl) ?_
  refine az_callPTi (wr := [az_ou g ob f]) (w2 := az_ou g ob f :: az_wF g ax an au aw (va_up V 16 o.2.2.2.1) T o.2.2.1 o.2.2.2.2) (As := []) (rest := [.int (0 : Int32), .ref (ob)]) ⟨hx, hb, hml, hown, hts⟩ hl.1 (kX6_advance l hst g sa ax an au aw V T S hs  o hc9) (cwV 0 hts gL_advance_X6_advance rfl rfl rfl (by decide +kernel) ⟨(Nat.le_of_ble_eq_true rfl), (Nat.le_of_ble_eq_true rfl)⟩) rfl hK hcx hP hD hS hA (List.perm_append_singleton _ _).symm (List.perm_append_singleton _ _) 0 rfl rfl rfl (Nat.le_of_ble_eq_true rfl) dL_advance_3 ⟨(Nat.le_of_ble_eq_true rfl), (Nat.le_of_ble_eq_true rfl)⟩ rfl (fun n0 ce q9 H locs hP hD hS hce hcv hcl => ?_) (fun n0 H locs hP hD hS => ?_)
  · replace h := az_neg n0 h
    by_cases c0 : o.1 = 3
    · replace h := az_pos c0 h
      rw [c0] at hcl
      refine vx_catch (E := "java/lang/IllegalStateException") (name := "java/lang/IllegalStateException") hown [] (⟨0, 8, 11, 21⟩ : ExceptionTableEntry) [] (htab.trans rfl) (fun z hz => absurd hz List.not_mem_nil) rfl (by decide) (hts _ (List.mem_of_getElem? (i := 1) rfl)) (va_Nw.use rfl (hcx.2.1 3)) hce hcv hcl ?_
      refine lv_astore_n (lv' := [(2, .ref (q9)), (0, .ref (ax 0)), (1, .ref (ob))]) hx hb dL_advance_11 rfl hl (by decide) rfl (fun ls hl => ?_)
      refine lv_iconst (v := (1 : Int32)) hx hb dL_advance_12 (by decide) ?_
      rw [← Option.some.inj h]
      exact az_iretT hx hb hr hlocks hK hP hD hS dL_advance_13 (Nat.le_of_ble_eq_true rfl) (Nat.le_of_ble_eq_true rfl)
    · replace h := az_neg c0 h
      exact az_non h
  · replace h := az_pos n0 h
    refine lv_i2l (v := (o.2.1).toInt64) hx hb dL_advance_6 rfl ?_
    refine va_last (D := g.1) (f := f) hx hb hK hP hD hS 0 2 rfl rfl (az_vin (by decide +kernel)) dL_advance_7 (fun H locs hP hD hS => ?_)
    have hP : va_P g.1 az_cl (az_ou g ob (vp_updL f 0 (o.2.1).toInt64) :: az_wF g ax an au aw (va_up V 16 o.2.2.2.1) T o.2.2.1 o.2.2.2.2) _ := hP
    have hD : va_D A (az_ou g ob (vp_updL f 0 (o.2.1).toInt64) :: az_wF g ax an au aw (va_up V 16 o.2.2.2.1) T o.2.2.1 o.2.2.2.2) := hD
    refine lv_goto (tgt := 14) hx hb dL_advance_8 (by decide) ?_
    refine lv_iconst (v := (0 : Int32)) hx hb dL_advance_14 (by decide) ?_
    rw [← Option.some.inj h]
    exact az_iretT hx hb hr hlocks hK hP hD hS dL_advance_15 (Nat.le_of_ble_eq_true rfl) (Nat.le_of_ble_eq_true rfl)

def FL_pass (V T : az_St) (S : Nat → az_St) (hs : Nat → Int32) (f : Nat → Int64) (x1 : Int32) : Option (Int32 × (Nat → Int64) × az_St × az_St × (Nat → az_St) × (Nat → Int32)) := (FX6_pass V T S hs x1).bind (fun o => if o.1 = 0 then some ((0 : Int32), vp_updL f 0 (o.2.1).toInt64, (va_up V 16 o.2.2.2.1), T, o.2.2.1, o.2.2.2.2) else (if o.1 = 2 then some ((1 : Int32), f, (va_up V 16 o.2.2.2.1), T, o.2.2.1, o.2.2.2.2) else if o.1 = 3 then some ((2 : Int32), f, (va_up V 16 o.2.2.2.1), T, o.2.2.1, o.2.2.2.2) else none))
set_option maxHeartbeats 8000000 in
set_option maxRecDepth 100000 in
theorem kL_pass (l : Launch) (hst : l.stackTraces = false) (g : az_G) (sa : Nat → Nat) (ax an au : Nat → Nat) (aw : Nat → Nat → Nat) (ob : Nat) (V T : az_St) (S : Nat → az_St) (hs : Nat → Int32) (f : Nat → Int64) (x1 : Int32) (u : Int32 × (Nat → Int64) × az_St × az_St × (Nat → az_St) × (Nat → Int32)) (h : FL_pass V T S hs f x1 = some u) : az_TI l yL_pass wsL_pass ({ frames := 8, cells := 2, slots := 12, locals := 185 } : Room) [.ref (ax 0), .int x1, .ref ob] g sa (az_ou g ob f :: az_wF g ax an au aw V T S hs) 0 u.1 (az_ou g ob u.2.1 :: az_wF g ax an au aw u.2.2.1 u.2.2.2.1 u.2.2.2.2.1 u.2.2.2.2.2) 2 := by
  refine az_bodyTW (cc := cL_pass) (maxL := 4) (ret := (some .int)) (mc := 2) (ms := 12) (Qc := fun A => az_QTI g (az_ou g ob u.2.1 :: az_wF g ax an au aw u.2.2.1 u.2.2.2.1 u.2.2.2.2.1 u.2.2.2.2.2) 0 u.1 A) (XC := fun A => az_XT g (az_ou g ob u.2.1 :: az_wF g ax an au aw u.2.2.1 u.2.2.2.1 u.2.2.2.2.1 u.2.2.2.2.2) 0 A) (by decide +kernel) rfl (Nat.le_of_ble_eq_true rfl) ?_
  intro p e s m args below meth c A hx hb hr hts hown hml hlocks htab hcx hA hK hP hD hS ls hl
  have hl : lv_has ls 4 [(0, .ref (ax 0)), (1, .int x1), (2, .ref (ob))] := hl
  unfold FL_pass at h
  obtain ⟨o, hc9, h⟩ := az_bnd h
  refine lv_aload_n hx hb dL_pass_0 rfl (lv_at hl 2 rfl) ?_
  refine lv_iconst (v := (0 : Int32)) hx hb dL_pass_1 (by decide) ?_
  refine lv_aload_n hx hb dL_pass_2 rfl (lv_at hl 0 rfl) ?_
  refine lv_iload_n hx hb dL_pass_3 rfl (lv_at hl 1 rfl) ?_
  refine az_callPTi (wr := [az_ou g ob f]) (w2 := az_ou g ob f :: az_wF g ax an au aw (va_up V 16 o.2.2.2.1) T o.2.2.1 o.2.2.2.2) (As := [.int x1]) (rest := [.int (0 : Int32), .ref (ob)]) ⟨hx, hb, hml, hown, hts⟩ hl.1 (kX6_pass l hst g sa ax an au aw V T S hs x1 o hc9) (cwV 1 hts gL_pass_X6_pass rfl rfl rfl (by decide +kernel) ⟨(Nat.le_of_ble_eq_true rfl), (Nat.le_of_ble_eq_true rfl)⟩) rfl hK hcx hP hD hS hA (List.perm_append_singleton _ _).symm (List.perm_append_singleton _ _) 0 rfl rfl rfl (Nat.le_of_ble_eq_true rfl) dL_pass_4 ⟨(Nat.le_of_ble_eq_true rfl), (Nat.le_of_ble_eq_true rfl)⟩ rfl (fun n0 ce q9 H locs hP hD hS hce hcv hcl => ?_) (fun n0 H locs hP hD hS => ?_)
  · replace h := az_neg n0 h
    by_cases c0 : o.1 = 2
    · replace h := az_pos c0 h
      rw [c0] at hcl
      refine vx_catch (E := "java/lang/IllegalArgumentException") (name := "java/lang/IllegalArgumentException") hown [] (⟨0, 9, 12, 13⟩ : ExceptionTableEntry) [(⟨0, 9, 15, 21⟩ : ExceptionTableEntry)] (htab.trans rfl) (fun z hz => absurd hz List.not_mem_nil) rfl (by decide) (hts _ (List.mem_of_getElem? (i := 1) rfl)) (va_Nw.use rfl (hcx.2.1 2)) hce hcv hcl ?_
      refine lv_astore_n (lv' := [(3, .ref (q9)), (0, .ref (ax 0)), (1, .int x1), (2, .ref (ob))]) hx hb dL_pass_12 rfl hl (by decide) rfl (fun ls hl => ?_)
      refine lv_iconst (v := (1 : Int32)) hx hb dL_pass_13 (by decide) ?_
      rw [← Option.some.inj h]
      exact az_iretT hx hb hr hlocks hK hP hD hS dL_pass_14 (Nat.le_of_ble_eq_true rfl) (Nat.le_of_ble_eq_true rfl)
    · replace h := az_neg c0 h
      by_cases c1 : o.1 = 3
      · replace h := az_pos c1 h
        rw [c1] at hcl
        refine vx_catch (E := "java/lang/IllegalStateException") (name := "java/lang/IllegalStateException") hown [(⟨0, 9, 12, 13⟩ : ExceptionTableEntry)] (⟨0, 9, 15, 21⟩ : ExceptionTableEntry) [] (htab.trans rfl) (fun z hz => by simp only [List.mem_cons, List.not_mem_nil, or_false] at hz; rcases hz with rfl; · exact Or.inr ⟨by decide, "java/lang/IllegalArgumentException", (hts _ (List.mem_of_getElem? (i := 1) rfl)), hcx.2.2.1 3 2 (by decide +kernel)⟩) rfl (by decide) (hts _ (List.mem_of_getElem? (i := 2) rfl)) (va_Nw.use rfl (hcx.2.1 3)) hce hcv hcl ?_
        refine lv_astore_n (lv' := [(3, .ref (q9)), (0, .ref (ax 0)), (1, .int x1), (2, .ref (ob))]) hx hb dL_pass_15 rfl hl (by decide) rfl (fun ls hl => ?_)
        refine lv_iconst (v := (2 : Int32)) hx hb dL_pass_16 (by decide) ?_
        rw [← Option.some.inj h]
        exact az_iretT hx hb hr hlocks hK hP hD hS dL_pass_17 (Nat.le_of_ble_eq_true rfl) (Nat.le_of_ble_eq_true rfl)
      · replace h := az_neg c1 h
        exact az_non h
  · replace h := az_pos n0 h
    refine lv_i2l (v := (o.2.1).toInt64) hx hb dL_pass_7 rfl ?_
    refine va_last (D := g.1) (f := f) hx hb hK hP hD hS 0 2 rfl rfl (az_vin (by decide +kernel)) dL_pass_8 (fun H locs hP hD hS => ?_)
    have hP : va_P g.1 az_cl (az_ou g ob (vp_updL f 0 (o.2.1).toInt64) :: az_wF g ax an au aw (va_up V 16 o.2.2.2.1) T o.2.2.1 o.2.2.2.2) _ := hP
    have hD : va_D A (az_ou g ob (vp_updL f 0 (o.2.1).toInt64) :: az_wF g ax an au aw (va_up V 16 o.2.2.2.1) T o.2.2.1 o.2.2.2.2) := hD
    refine lv_goto (tgt := 18) hx hb dL_pass_9 (by decide) ?_
    refine lv_iconst (v := (0 : Int32)) hx hb dL_pass_18 (by decide) ?_
    rw [← Option.some.inj h]
    exact az_iretT hx hb hr hlocks hK hP hD hS dL_pass_19 (Nat.le_of_ble_eq_true rfl) (Nat.le_of_ble_eq_true rfl)

def FL_count (V T : az_St) (S : Nat → az_St) (hs : Nat → Int32) (f : Nat → Int64) (x1 : Int32) : Option (Int32 × (Nat → Int64) × az_St × az_St × (Nat → az_St) × (Nat → Int32)) := (FX6_count V x1).bind (fun o => if o.1 = 0 then some ((0 : Int32), vp_updL f 0 (o.2).toInt64, V, T, S, hs) else (if o.1 = 2 then some ((1 : Int32), f, V, T, S, hs) else none))
set_option maxHeartbeats 8000000 in
set_option maxRecDepth 100000 in
theorem kL_count (l : Launch) (hst : l.stackTraces = false) (g : az_G) (sa : Nat → Nat) (ax an au : Nat → Nat) (aw : Nat → Nat → Nat) (ob : Nat) (V T : az_St) (S : Nat → az_St) (hs : Nat → Int32) (f : Nat → Int64) (x1 : Int32) (u : Int32 × (Nat → Int64) × az_St × az_St × (Nat → az_St) × (Nat → Int32)) (h : FL_count V T S hs f x1 = some u) : az_TI l yL_count wsL_count ({ frames := 7, cells := 1, slots := 6, locals := 121 } : Room) [.ref (ax 0), .int x1, .ref ob] g sa (az_ou g ob f :: az_wF g ax an au aw V T S hs) 0 u.1 (az_ou g ob u.2.1 :: az_wF g ax an au aw u.2.2.1 u.2.2.2.1 u.2.2.2.2.1 u.2.2.2.2.2) 1 := by
  refine az_bodyTW (cc := cL_count) (maxL := 4) (ret := (some .int)) (mc := 1) (ms := 6) (Qc := fun A => az_QTI g (az_ou g ob u.2.1 :: az_wF g ax an au aw u.2.2.1 u.2.2.2.1 u.2.2.2.2.1 u.2.2.2.2.2) 0 u.1 A) (XC := fun A => az_XT g (az_ou g ob u.2.1 :: az_wF g ax an au aw u.2.2.1 u.2.2.2.1 u.2.2.2.2.1 u.2.2.2.2.2) 0 A) (by decide +kernel) rfl (Nat.le_of_ble_eq_true rfl) ?_
  intro p e s m args below meth c A hx hb hr hts hown hml hlocks htab hcx hA hK hP hD hS ls hl
  have hl : lv_has ls 4 [(0, .ref (ax 0)), (1, .int x1), (2, .ref (ob))] := hl
  unfold FL_count at h
  obtain ⟨o, hc9, h⟩ := az_bnd h
  refine lv_aload_n hx hb dL_count_0 rfl (lv_at hl 2 rfl) ?_
  refine lv_iconst (v := (0 : Int32)) hx hb dL_count_1 (by decide) ?_
  refine lv_aload_n hx hb dL_count_2 rfl (lv_at hl 0 rfl) ?_
  refine lv_iload_n hx hb dL_count_3 rfl (lv_at hl 1 rfl) ?_
  refine az_callPTi (wr := [az_ou g ob f]) (w2 := az_ou g ob f :: az_wF g ax an au aw V T S hs) (As := [.int x1]) (rest := [.int (0 : Int32), .ref (ob)]) ⟨hx, hb, hml, hown, hts⟩ hl.1 (kX6_count l hst g sa ax an au (az_cV g au T ++ az_cH g ax aw S hs) V x1 o hc9) (cwV 1 hts gL_count_X6_count rfl rfl rfl (by decide +kernel) ⟨(Nat.le_of_ble_eq_true rfl), (Nat.le_of_ble_eq_true rfl)⟩) rfl hK hcx hP hD hS hA (List.perm_append_singleton _ _).symm (List.perm_append_singleton _ _) 0 rfl rfl rfl (Nat.le_of_ble_eq_true rfl) dL_count_4 ⟨(Nat.le_of_ble_eq_true rfl), (Nat.le_of_ble_eq_true rfl)⟩ rfl (fun n0 ce q9 H locs hP hD hS hce hcv hcl => ?_) (fun n0 H locs hP hD hS => ?_)
  · replace h := az_neg n0 h
    by_cases c0 : o.1 = 2
    · replace h := az_pos c0 h
      rw [c0] at hcl
      refine vx_catch (E := "java/lang/IllegalArgumentException") (name := "java/lang/IllegalArgumentException") hown [] (⟨0, 9, 12, 13⟩ : ExceptionTableEntry) [] (htab.trans rfl) (fun z hz => absurd hz List.not_mem_nil) rfl (by decide) (hts _ (List.mem_of_getElem? (i := 1) rfl)) (va_Nw.use rfl (hcx.2.1 2)) hce hcv hcl ?_
      refine lv_astore_n (lv' := [(3, .ref (q9)), (0, .ref (ax 0)), (1, .int x1), (2, .ref (ob))]) hx hb dL_count_12 rfl hl (by decide) rfl (fun ls hl => ?_)
      refine lv_iconst (v := (1 : Int32)) hx hb dL_count_13 (by decide) ?_
      rw [← Option.some.inj h]
      exact az_iretT hx hb hr hlocks hK hP hD hS dL_count_14 (Nat.le_of_ble_eq_true rfl) (Nat.le_of_ble_eq_true rfl)
    · replace h := az_neg c0 h
      exact az_non h
  · replace h := az_pos n0 h
    refine lv_i2l (v := (o.2).toInt64) hx hb dL_count_7 rfl ?_
    refine va_last (D := g.1) (f := f) hx hb hK hP hD hS 0 2 rfl rfl (az_vin (by decide +kernel)) dL_count_8 (fun H locs hP hD hS => ?_)
    have hP : va_P g.1 az_cl (az_ou g ob (vp_updL f 0 (o.2).toInt64) :: az_wF g ax an au aw V T S hs) _ := hP
    have hD : va_D A (az_ou g ob (vp_updL f 0 (o.2).toInt64) :: az_wF g ax an au aw V T S hs) := hD
    refine lv_goto (tgt := 15) hx hb dL_count_9 (by decide) ?_
    refine lv_iconst (v := (0 : Int32)) hx hb dL_count_15 (by decide) ?_
    rw [← Option.some.inj h]
    exact az_iretT hx hb hr hlocks hK hP hD hS dL_count_16 (Nat.le_of_ble_eq_true rfl) (Nat.le_of_ble_eq_true rfl)

def FL_blocks (V T : az_St) (S : Nat → az_St) (hs : Nat → Int32) (f : Nat → Int64) (x1 : Int32) : Option (Int32 × (Nat → Int64) × az_St × az_St × (Nat → az_St) × (Nat → Int32)) := (FX6_blocks V x1).bind (fun o => if o.1 = 0 then some ((0 : Int32), vp_updL f 0 (o.2).toInt64, V, T, S, hs) else (if o.1 = 2 then some ((1 : Int32), f, V, T, S, hs) else none))
set_option maxHeartbeats 8000000 in
set_option maxRecDepth 100000 in
theorem kL_blocks (l : Launch) (hst : l.stackTraces = false) (g : az_G) (sa : Nat → Nat) (ax an au : Nat → Nat) (aw : Nat → Nat → Nat) (ob : Nat) (V T : az_St) (S : Nat → az_St) (hs : Nat → Int32) (f : Nat → Int64) (x1 : Int32) (u : Int32 × (Nat → Int64) × az_St × az_St × (Nat → az_St) × (Nat → Int32)) (h : FL_blocks V T S hs f x1 = some u) : az_TI l yL_blocks wsL_blocks ({ frames := 8, cells := 1, slots := 6, locals := 143 } : Room) [.ref (ax 0), .int x1, .ref ob] g sa (az_ou g ob f :: az_wF g ax an au aw V T S hs) 0 u.1 (az_ou g ob u.2.1 :: az_wF g ax an au aw u.2.2.1 u.2.2.2.1 u.2.2.2.2.1 u.2.2.2.2.2) 1 := by
  refine az_bodyTW (cc := cL_blocks) (maxL := 4) (ret := (some .int)) (mc := 1) (ms := 6) (Qc := fun A => az_QTI g (az_ou g ob u.2.1 :: az_wF g ax an au aw u.2.2.1 u.2.2.2.1 u.2.2.2.2.1 u.2.2.2.2.2) 0 u.1 A) (XC := fun A => az_XT g (az_ou g ob u.2.1 :: az_wF g ax an au aw u.2.2.1 u.2.2.2.1 u.2.2.2.2.1 u.2.2.2.2.2) 0 A) (by decide +kernel) rfl (Nat.le_of_ble_eq_true rfl) ?_
  intro p e s m args below meth c A hx hb hr hts hown hml hlocks htab hcx hA hK hP hD hS ls hl
  have hl : lv_has ls 4 [(0, .ref (ax 0)), (1, .int x1), (2, .ref (ob))] := hl
  unfold FL_blocks at h
  obtain ⟨o, hc9, h⟩ := az_bnd h
  refine lv_aload_n hx hb dL_blocks_0 rfl (lv_at hl 2 rfl) ?_
  refine lv_iconst (v := (0 : Int32)) hx hb dL_blocks_1 (by decide) ?_
  refine lv_aload_n hx hb dL_blocks_2 rfl (lv_at hl 0 rfl) ?_
  refine lv_iload_n hx hb dL_blocks_3 rfl (lv_at hl 1 rfl) ?_
  refine az_callPTi (wr := [az_ou g ob f]) (w2 := az_ou g ob f :: az_wF g ax an au aw V T S hs) (As := [.int x1]) (rest := [.int (0 : Int32), .ref (ob)]) ⟨hx, hb, hml, hown, hts⟩ hl.1 (kX6_blocks l hst g sa ax an au (az_cV g au T ++ az_cH g ax aw S hs) V x1 o hc9) (cwV 1 hts gL_blocks_X6_blocks rfl rfl rfl (by decide +kernel) ⟨(Nat.le_of_ble_eq_true rfl), (Nat.le_of_ble_eq_true rfl)⟩) rfl hK hcx hP hD hS hA (List.perm_append_singleton _ _).symm (List.perm_append_singleton _ _) 0 rfl rfl rfl (Nat.le_of_ble_eq_true rfl) dL_blocks_4 ⟨(Nat.le_of_ble_eq_true rfl), (Nat.le_of_ble_eq_true rfl)⟩ rfl (fun n0 ce q9 H locs hP hD hS hce hcv hcl => ?_) (fun n0 H locs hP hD hS => ?_)
  · replace h := az_neg n0 h
    by_cases c0 : o.1 = 2
    · replace h := az_pos c0 h
      rw [c0] at hcl
      refine vx_catch (E := "java/lang/IllegalArgumentException") (name := "java/lang/IllegalArgumentException") hown [] (⟨0, 9, 12, 13⟩ : ExceptionTableEntry) [] (htab.trans rfl) (fun z hz => absurd hz List.not_mem_nil) rfl (by decide) (hts _ (List.mem_of_getElem? (i := 1) rfl)) (va_Nw.use rfl (hcx.2.1 2)) hce hcv hcl ?_
      refine lv_astore_n (lv' := [(3, .ref (q9)), (0, .ref (ax 0)), (1, .int x1), (2, .ref (ob))]) hx hb dL_blocks_12 rfl hl (by decide) rfl (fun ls hl => ?_)
      refine lv_iconst (v := (1 : Int32)) hx hb dL_blocks_13 (by decide) ?_
      rw [← Option.some.inj h]
      exact az_iretT hx hb hr hlocks hK hP hD hS dL_blocks_14 (Nat.le_of_ble_eq_true rfl) (Nat.le_of_ble_eq_true rfl)
    · replace h := az_neg c0 h
      exact az_non h
  · replace h := az_pos n0 h
    refine lv_i2l (v := (o.2).toInt64) hx hb dL_blocks_7 rfl ?_
    refine va_last (D := g.1) (f := f) hx hb hK hP hD hS 0 2 rfl rfl (az_vin (by decide +kernel)) dL_blocks_8 (fun H locs hP hD hS => ?_)
    have hP : va_P g.1 az_cl (az_ou g ob (vp_updL f 0 (o.2).toInt64) :: az_wF g ax an au aw V T S hs) _ := hP
    have hD : va_D A (az_ou g ob (vp_updL f 0 (o.2).toInt64) :: az_wF g ax an au aw V T S hs) := hD
    refine lv_goto (tgt := 15) hx hb dL_blocks_9 (by decide) ?_
    refine lv_iconst (v := (0 : Int32)) hx hb dL_blocks_15 (by decide) ?_
    rw [← Option.some.inj h]
    exact az_iretT hx hb hr hlocks hK hP hD hS dL_blocks_16 (Nat.le_of_ble_eq_true rfl) (Nat.le_of_ble_eq_true rfl)

def FL_segment (V T : az_St) (S : Nat → az_St) (hs : Nat → Int32) (f : Nat → Int64) (x1 : Int32) (x2 : Int32) : Option (Int32 × (Nat → Int64) × az_St × az_St × (Nat → az_St) × (Nat → Int32)) := (FX6_segment V x1 x2).bind (fun o => if o.1 = 0 then some ((0 : Int32), vp_updL f 0 (o.2).toInt64, V, T, S, hs) else (if o.1 = 1 then some ((1 : Int32), f, V, T, S, hs) else if o.1 = 2 then some ((2 : Int32), f, V, T, S, hs) else none))
set_option maxHeartbeats 8000000 in
set_option maxRecDepth 100000 in
theorem kL_segment (l : Launch) (hst : l.stackTraces = false) (g : az_G) (sa : Nat → Nat) (ax an au : Nat → Nat) (aw : Nat → Nat → Nat) (ob : Nat) (V T : az_St) (S : Nat → az_St) (hs : Nat → Int32) (f : Nat → Int64) (x1 : Int32) (x2 : Int32) (u : Int32 × (Nat → Int64) × az_St × az_St × (Nat → az_St) × (Nat → Int32)) (h : FL_segment V T S hs f x1 x2 = some u) : az_TI l yL_segment wsL_segment ({ frames := 9, cells := 2, slots := 12, locals := 163 } : Room) [.ref (ax 0), .int x1, .int x2, .ref ob] g sa (az_ou g ob f :: az_wF g ax an au aw V T S hs) 0 u.1 (az_ou g ob u.2.1 :: az_wF g ax an au aw u.2.2.1 u.2.2.2.1 u.2.2.2.2.1 u.2.2.2.2.2) 2 := by
  refine az_bodyTW (cc := cL_segment) (maxL := 5) (ret := (some .int)) (mc := 2) (ms := 12) (Qc := fun A => az_QTI g (az_ou g ob u.2.1 :: az_wF g ax an au aw u.2.2.1 u.2.2.2.1 u.2.2.2.2.1 u.2.2.2.2.2) 0 u.1 A) (XC := fun A => az_XT g (az_ou g ob u.2.1 :: az_wF g ax an au aw u.2.2.1 u.2.2.2.1 u.2.2.2.2.1 u.2.2.2.2.2) 0 A) (by decide +kernel) rfl (Nat.le_of_ble_eq_true rfl) ?_
  intro p e s m args below meth c A hx hb hr hts hown hml hlocks htab hcx hA hK hP hD hS ls hl
  have hl : lv_has ls 5 [(0, .ref (ax 0)), (1, .int x1), (2, .int x2), (3, .ref (ob))] := hl
  unfold FL_segment at h
  obtain ⟨o, hc9, h⟩ := az_bnd h
  refine lv_aload_n hx hb dL_segment_0 rfl (lv_at hl 3 rfl) ?_
  refine lv_iconst (v := (0 : Int32)) hx hb dL_segment_1 (by decide) ?_
  refine lv_aload_n hx hb dL_segment_2 rfl (lv_at hl 0 rfl) ?_
  refine lv_iload_n hx hb dL_segment_3 rfl (lv_at hl 1 rfl) ?_
  refine lv_iload_n hx hb dL_segment_4 rfl (lv_at hl 2 rfl) ?_
  refine az_callPTi (wr := [az_ou g ob f]) (w2 := az_ou g ob f :: az_wF g ax an au aw V T S hs) (As := [.int x1, .int x2]) (rest := [.int (0 : Int32), .ref (ob)]) ⟨hx, hb, hml, hown, hts⟩ hl.1 (kX6_segment l hst g sa ax an au (az_cV g au T ++ az_cH g ax aw S hs) V x1 x2 o hc9) (cwV 2 hts gL_segment_X6_segment rfl rfl rfl (by decide +kernel) ⟨(Nat.le_of_ble_eq_true rfl), (Nat.le_of_ble_eq_true rfl)⟩) rfl hK hcx hP hD hS hA (List.perm_append_singleton _ _).symm (List.perm_append_singleton _ _) 0 rfl rfl rfl (Nat.le_of_ble_eq_true rfl) dL_segment_5 ⟨(Nat.le_of_ble_eq_true rfl), (Nat.le_of_ble_eq_true rfl)⟩ rfl (fun n0 ce q9 H locs hP hD hS hce hcv hcl => ?_) (fun n0 H locs hP hD hS => ?_)
  · replace h := az_neg n0 h
    by_cases c0 : o.1 = 1
    · replace h := az_pos c0 h
      rw [c0] at hcl
      refine vx_catch (E := "java/lang/IndexOutOfBoundsException") (name := "java/lang/IndexOutOfBoundsException") hown [] (⟨0, 10, 13, 19⟩ : ExceptionTableEntry) [(⟨0, 10, 17, 13⟩ : ExceptionTableEntry)] (htab.trans rfl) (fun z hz => absurd hz List.not_mem_nil) rfl (by decide) (hts _ (List.mem_of_getElem? (i := 1) rfl)) (va_Nw.use rfl (hcx.2.1 1)) hce hcv hcl ?_
      refine lv_astore (lv' := [(4, .ref (q9)), (0, .ref (ax 0)), (1, .int x1), (2, .int x2), (3, .ref (ob))]) hx hb dL_segment_13 hl (by decide) rfl (fun ls hl => ?_)
      refine lv_iconst (v := (1 : Int32)) hx hb dL_segment_15 (by decide) ?_
      rw [← Option.some.inj h]
      exact az_iretT hx hb hr hlocks hK hP hD hS dL_segment_16 (Nat.le_of_ble_eq_true rfl) (Nat.le_of_ble_eq_true rfl)
    · replace h := az_neg c0 h
      by_cases c1 : o.1 = 2
      · replace h := az_pos c1 h
        rw [c1] at hcl
        refine vx_catch (E := "java/lang/IllegalArgumentException") (name := "java/lang/IllegalArgumentException") hown [(⟨0, 10, 13, 19⟩ : ExceptionTableEntry)] (⟨0, 10, 17, 13⟩ : ExceptionTableEntry) [] (htab.trans rfl) (fun z hz => by simp only [List.mem_cons, List.not_mem_nil, or_false] at hz; rcases hz with rfl; · exact Or.inr ⟨by decide, "java/lang/IndexOutOfBoundsException", (hts _ (List.mem_of_getElem? (i := 1) rfl)), hcx.2.2.1 2 1 (by decide +kernel)⟩) rfl (by decide) (hts _ (List.mem_of_getElem? (i := 2) rfl)) (va_Nw.use rfl (hcx.2.1 2)) hce hcv hcl ?_
        refine lv_astore (lv' := [(4, .ref (q9)), (0, .ref (ax 0)), (1, .int x1), (2, .int x2), (3, .ref (ob))]) hx hb dL_segment_17 hl (by decide) rfl (fun ls hl => ?_)
        refine lv_iconst (v := (2 : Int32)) hx hb dL_segment_19 (by decide) ?_
        rw [← Option.some.inj h]
        exact az_iretT hx hb hr hlocks hK hP hD hS dL_segment_20 (Nat.le_of_ble_eq_true rfl) (Nat.le_of_ble_eq_true rfl)
      · replace h := az_neg c1 h
        exact az_non h
  · replace h := az_pos n0 h
    refine lv_i2l (v := (o.2).toInt64) hx hb dL_segment_8 rfl ?_
    refine va_last (D := g.1) (f := f) hx hb hK hP hD hS 0 2 rfl rfl (az_vin (by decide +kernel)) dL_segment_9 (fun H locs hP hD hS => ?_)
    have hP : va_P g.1 az_cl (az_ou g ob (vp_updL f 0 (o.2).toInt64) :: az_wF g ax an au aw V T S hs) _ := hP
    have hD : va_D A (az_ou g ob (vp_updL f 0 (o.2).toInt64) :: az_wF g ax an au aw V T S hs) := hD
    refine lv_goto (tgt := 21) hx hb dL_segment_10 (by decide) ?_
    refine lv_iconst (v := (0 : Int32)) hx hb dL_segment_21 (by decide) ?_
    rw [← Option.some.inj h]
    exact az_iretT hx hb hr hlocks hK hP hD hS dL_segment_22 (Nat.le_of_ble_eq_true rfl) (Nat.le_of_ble_eq_true rfl)

def FL_meanAge (V T : az_St) (S : Nat → az_St) (hs : Nat → Int32) (f : Nat → Int64) (x1 : Int32) (x2 : Int32) : Option (Int32 × (Nat → Int64) × az_St × az_St × (Nat → az_St) × (Nat → Int32)) := (FX6_meanAge V x1 x2).bind (fun o => if o.1 = 0 then some ((0 : Int32), vp_updL f 0 (o.2).toInt64, V, T, S, hs) else (if o.1 = 1 then some ((1 : Int32), f, V, T, S, hs) else if o.1 = 4 then some ((2 : Int32), f, V, T, S, hs) else none))
set_option maxHeartbeats 8000000 in
set_option maxRecDepth 100000 in
theorem kL_meanAge (l : Launch) (hst : l.stackTraces = false) (g : az_G) (sa : Nat → Nat) (ax an au : Nat → Nat) (aw : Nat → Nat → Nat) (ob : Nat) (V T : az_St) (S : Nat → az_St) (hs : Nat → Int32) (f : Nat → Int64) (x1 : Int32) (x2 : Int32) (u : Int32 × (Nat → Int64) × az_St × az_St × (Nat → az_St) × (Nat → Int32)) (h : FL_meanAge V T S hs f x1 x2 = some u) : az_TI l yL_meanAge wsL_meanAge ({ frames := 9, cells := 2, slots := 12, locals := 164 } : Room) [.ref (ax 0), .int x1, .int x2, .ref ob] g sa (az_ou g ob f :: az_wF g ax an au aw V T S hs) 0 u.1 (az_ou g ob u.2.1 :: az_wF g ax an au aw u.2.2.1 u.2.2.2.1 u.2.2.2.2.1 u.2.2.2.2.2) 2 := by
  refine az_bodyTW (cc := cL_meanAge) (maxL := 5) (ret := (some .int)) (mc := 2) (ms := 12) (Qc := fun A => az_QTI g (az_ou g ob u.2.1 :: az_wF g ax an au aw u.2.2.1 u.2.2.2.1 u.2.2.2.2.1 u.2.2.2.2.2) 0 u.1 A) (XC := fun A => az_XT g (az_ou g ob u.2.1 :: az_wF g ax an au aw u.2.2.1 u.2.2.2.1 u.2.2.2.2.1 u.2.2.2.2.2) 0 A) (by decide +kernel) rfl (Nat.le_of_ble_eq_true rfl) ?_
  intro p e s m args below meth c A hx hb hr hts hown hml hlocks htab hcx hA hK hP hD hS ls hl
  have hl : lv_has ls 5 [(0, .ref (ax 0)), (1, .int x1), (2, .int x2), (3, .ref (ob))] := hl
  unfold FL_meanAge at h
  obtain ⟨o, hc9, h⟩ := az_bnd h
  refine lv_aload_n hx hb dL_meanAge_0 rfl (lv_at hl 3 rfl) ?_
  refine lv_iconst (v := (0 : Int32)) hx hb dL_meanAge_1 (by decide) ?_
  refine lv_aload_n hx hb dL_meanAge_2 rfl (lv_at hl 0 rfl) ?_
  refine lv_iload_n hx hb dL_meanAge_3 rfl (lv_at hl 1 rfl) ?_
  refine lv_iload_n hx hb dL_meanAge_4 rfl (lv_at hl 2 rfl) ?_
  refine az_callPTi (wr := [az_ou g ob f]) (w2 := az_ou g ob f :: az_wF g ax an au aw V T S hs) (As := [.int x1, .int x2]) (rest := [.int (0 : Int32), .ref (ob)]) ⟨hx, hb, hml, hown, hts⟩ hl.1 (kX6_meanAge l hst g sa ax an au (az_cV g au T ++ az_cH g ax aw S hs) V x1 x2 o hc9) (cwV 2 hts gL_meanAge_X6_meanAge rfl rfl rfl (by decide +kernel) ⟨(Nat.le_of_ble_eq_true rfl), (Nat.le_of_ble_eq_true rfl)⟩) rfl hK hcx hP hD hS hA (List.perm_append_singleton _ _).symm (List.perm_append_singleton _ _) 0 rfl rfl rfl (Nat.le_of_ble_eq_true rfl) dL_meanAge_5 ⟨(Nat.le_of_ble_eq_true rfl), (Nat.le_of_ble_eq_true rfl)⟩ rfl (fun n0 ce q9 H locs hP hD hS hce hcv hcl => ?_) (fun n0 H locs hP hD hS => ?_)
  · replace h := az_neg n0 h
    by_cases c0 : o.1 = 1
    · replace h := az_pos c0 h
      rw [c0] at hcl
      refine vx_catch (E := "java/lang/IndexOutOfBoundsException") (name := "java/lang/IndexOutOfBoundsException") hown [] (⟨0, 10, 13, 19⟩ : ExceptionTableEntry) [(⟨0, 10, 17, 27⟩ : ExceptionTableEntry)] (htab.trans rfl) (fun z hz => absurd hz List.not_mem_nil) rfl (by decide) (hts _ (List.mem_of_getElem? (i := 1) rfl)) (va_Nw.use rfl (hcx.2.1 1)) hce hcv hcl ?_
      refine lv_astore (lv' := [(4, .ref (q9)), (0, .ref (ax 0)), (1, .int x1), (2, .int x2), (3, .ref (ob))]) hx hb dL_meanAge_13 hl (by decide) rfl (fun ls hl => ?_)
      refine lv_iconst (v := (1 : Int32)) hx hb dL_meanAge_15 (by decide) ?_
      rw [← Option.some.inj h]
      exact az_iretT hx hb hr hlocks hK hP hD hS dL_meanAge_16 (Nat.le_of_ble_eq_true rfl) (Nat.le_of_ble_eq_true rfl)
    · replace h := az_neg c0 h
      by_cases c1 : o.1 = 4
      · replace h := az_pos c1 h
        rw [c1] at hcl
        refine vx_catch (E := "java/util/NoSuchElementException") (name := "java/util/NoSuchElementException") hown [(⟨0, 10, 13, 19⟩ : ExceptionTableEntry)] (⟨0, 10, 17, 27⟩ : ExceptionTableEntry) [] (htab.trans rfl) (fun z hz => by simp only [List.mem_cons, List.not_mem_nil, or_false] at hz; rcases hz with rfl; · exact Or.inr ⟨by decide, "java/lang/IndexOutOfBoundsException", (hts _ (List.mem_of_getElem? (i := 1) rfl)), hcx.2.2.1 4 1 (by decide +kernel)⟩) rfl (by decide) (hts _ (List.mem_of_getElem? (i := 2) rfl)) (va_Nw.use rfl (hcx.2.1 4)) hce hcv hcl ?_
        refine lv_astore (lv' := [(4, .ref (q9)), (0, .ref (ax 0)), (1, .int x1), (2, .int x2), (3, .ref (ob))]) hx hb dL_meanAge_17 hl (by decide) rfl (fun ls hl => ?_)
        refine lv_iconst (v := (2 : Int32)) hx hb dL_meanAge_19 (by decide) ?_
        rw [← Option.some.inj h]
        exact az_iretT hx hb hr hlocks hK hP hD hS dL_meanAge_20 (Nat.le_of_ble_eq_true rfl) (Nat.le_of_ble_eq_true rfl)
      · replace h := az_neg c1 h
        exact az_non h
  · replace h := az_pos n0 h
    refine lv_i2l (v := (o.2).toInt64) hx hb dL_meanAge_8 rfl ?_
    refine va_last (D := g.1) (f := f) hx hb hK hP hD hS 0 2 rfl rfl (az_vin (by decide +kernel)) dL_meanAge_9 (fun H locs hP hD hS => ?_)
    have hP : va_P g.1 az_cl (az_ou g ob (vp_updL f 0 (o.2).toInt64) :: az_wF g ax an au aw V T S hs) _ := hP
    have hD : va_D A (az_ou g ob (vp_updL f 0 (o.2).toInt64) :: az_wF g ax an au aw V T S hs) := hD
    refine lv_goto (tgt := 21) hx hb dL_meanAge_10 (by decide) ?_
    refine lv_iconst (v := (0 : Int32)) hx hb dL_meanAge_21 (by decide) ?_
    rw [← Option.some.inj h]
    exact az_iretT hx hb hr hlocks hK hP hD hS dL_meanAge_22 (Nat.le_of_ble_eq_true rfl) (Nat.le_of_ble_eq_true rfl)

def FL_block (V T : az_St) (S : Nat → az_St) (hs : Nat → Int32) (f : Nat → Int64) (x1 : Int32) (x2 : Int32) : Option (Int32 × (Nat → Int64) × az_St × az_St × (Nat → az_St) × (Nat → Int32)) := (FX6_block V x1 x2).bind (fun o => if o.1 = 0 then some ((0 : Int32), vp_updL f 0 (o.2).toInt64, V, T, S, hs) else (if o.1 = 1 then some ((1 : Int32), f, V, T, S, hs) else if o.1 = 2 then some ((2 : Int32), f, V, T, S, hs) else none))
set_option maxHeartbeats 8000000 in
set_option maxRecDepth 100000 in
theorem kL_block (l : Launch) (hst : l.stackTraces = false) (g : az_G) (sa : Nat → Nat) (ax an au : Nat → Nat) (aw : Nat → Nat → Nat) (ob : Nat) (V T : az_St) (S : Nat → az_St) (hs : Nat → Int32) (f : Nat → Int64) (x1 : Int32) (x2 : Int32) (u : Int32 × (Nat → Int64) × az_St × az_St × (Nat → az_St) × (Nat → Int32)) (h : FL_block V T S hs f x1 x2 = some u) : az_TI l yL_block wsL_block ({ frames := 9, cells := 2, slots := 12, locals := 163 } : Room) [.ref (ax 0), .int x1, .int x2, .ref ob] g sa (az_ou g ob f :: az_wF g ax an au aw V T S hs) 0 u.1 (az_ou g ob u.2.1 :: az_wF g ax an au aw u.2.2.1 u.2.2.2.1 u.2.2.2.2.1 u.2.2.2.2.2) 2 := by
  refine az_bodyTW (cc := cL_block) (maxL := 5) (ret := (some .int)) (mc := 2) (ms := 12) (Qc := fun A => az_QTI g (az_ou g ob u.2.1 :: az_wF g ax an au aw u.2.2.1 u.2.2.2.1 u.2.2.2.2.1 u.2.2.2.2.2) 0 u.1 A) (XC := fun A => az_XT g (az_ou g ob u.2.1 :: az_wF g ax an au aw u.2.2.1 u.2.2.2.1 u.2.2.2.2.1 u.2.2.2.2.2) 0 A) (by decide +kernel) rfl (Nat.le_of_ble_eq_true rfl) ?_
  intro p e s m args below meth c A hx hb hr hts hown hml hlocks htab hcx hA hK hP hD hS ls hl
  have hl : lv_has ls 5 [(0, .ref (ax 0)), (1, .int x1), (2, .int x2), (3, .ref (ob))] := hl
  unfold FL_block at h
  obtain ⟨o, hc9, h⟩ := az_bnd h
  refine lv_aload_n hx hb dL_block_0 rfl (lv_at hl 3 rfl) ?_
  refine lv_iconst (v := (0 : Int32)) hx hb dL_block_1 (by decide) ?_
  refine lv_aload_n hx hb dL_block_2 rfl (lv_at hl 0 rfl) ?_
  refine lv_iload_n hx hb dL_block_3 rfl (lv_at hl 1 rfl) ?_
  refine lv_iload_n hx hb dL_block_4 rfl (lv_at hl 2 rfl) ?_
  refine az_callPTi (wr := [az_ou g ob f]) (w2 := az_ou g ob f :: az_wF g ax an au aw V T S hs) (As := [.int x1, .int x2]) (rest := [.int (0 : Int32), .ref (ob)]) ⟨hx, hb, hml, hown, hts⟩ hl.1 (kX6_block l hst g sa ax an au (az_cV g au T ++ az_cH g ax aw S hs) V x1 x2 o hc9) (cwV 2 hts gL_block_X6_block rfl rfl rfl (by decide +kernel) ⟨(Nat.le_of_ble_eq_true rfl), (Nat.le_of_ble_eq_true rfl)⟩) rfl hK hcx hP hD hS hA (List.perm_append_singleton _ _).symm (List.perm_append_singleton _ _) 0 rfl rfl rfl (Nat.le_of_ble_eq_true rfl) dL_block_5 ⟨(Nat.le_of_ble_eq_true rfl), (Nat.le_of_ble_eq_true rfl)⟩ rfl (fun n0 ce q9 H locs hP hD hS hce hcv hcl => ?_) (fun n0 H locs hP hD hS => ?_)
  · replace h := az_neg n0 h
    by_cases c0 : o.1 = 1
    · replace h := az_pos c0 h
      rw [c0] at hcl
      refine vx_catch (E := "java/lang/IndexOutOfBoundsException") (name := "java/lang/IndexOutOfBoundsException") hown [] (⟨0, 10, 13, 19⟩ : ExceptionTableEntry) [(⟨0, 10, 17, 13⟩ : ExceptionTableEntry)] (htab.trans rfl) (fun z hz => absurd hz List.not_mem_nil) rfl (by decide) (hts _ (List.mem_of_getElem? (i := 1) rfl)) (va_Nw.use rfl (hcx.2.1 1)) hce hcv hcl ?_
      refine lv_astore (lv' := [(4, .ref (q9)), (0, .ref (ax 0)), (1, .int x1), (2, .int x2), (3, .ref (ob))]) hx hb dL_block_13 hl (by decide) rfl (fun ls hl => ?_)
      refine lv_iconst (v := (1 : Int32)) hx hb dL_block_15 (by decide) ?_
      rw [← Option.some.inj h]
      exact az_iretT hx hb hr hlocks hK hP hD hS dL_block_16 (Nat.le_of_ble_eq_true rfl) (Nat.le_of_ble_eq_true rfl)
    · replace h := az_neg c0 h
      by_cases c1 : o.1 = 2
      · replace h := az_pos c1 h
        rw [c1] at hcl
        refine vx_catch (E := "java/lang/IllegalArgumentException") (name := "java/lang/IllegalArgumentException") hown [(⟨0, 10, 13, 19⟩ : ExceptionTableEntry)] (⟨0, 10, 17, 13⟩ : ExceptionTableEntry) [] (htab.trans rfl) (fun z hz => by simp only [List.mem_cons, List.not_mem_nil, or_false] at hz; rcases hz with rfl; · exact Or.inr ⟨by decide, "java/lang/IndexOutOfBoundsException", (hts _ (List.mem_of_getElem? (i := 1) rfl)), hcx.2.2.1 2 1 (by decide +kernel)⟩) rfl (by decide) (hts _ (List.mem_of_getElem? (i := 2) rfl)) (va_Nw.use rfl (hcx.2.1 2)) hce hcv hcl ?_
        refine lv_astore (lv' := [(4, .ref (q9)), (0, .ref (ax 0)), (1, .int x1), (2, .int x2), (3, .ref (ob))]) hx hb dL_block_17 hl (by decide) rfl (fun ls hl => ?_)
        refine lv_iconst (v := (2 : Int32)) hx hb dL_block_19 (by decide) ?_
        rw [← Option.some.inj h]
        exact az_iretT hx hb hr hlocks hK hP hD hS dL_block_20 (Nat.le_of_ble_eq_true rfl) (Nat.le_of_ble_eq_true rfl)
      · replace h := az_neg c1 h
        exact az_non h
  · replace h := az_pos n0 h
    refine lv_i2l (v := (o.2).toInt64) hx hb dL_block_8 rfl ?_
    refine va_last (D := g.1) (f := f) hx hb hK hP hD hS 0 2 rfl rfl (az_vin (by decide +kernel)) dL_block_9 (fun H locs hP hD hS => ?_)
    have hP : va_P g.1 az_cl (az_ou g ob (vp_updL f 0 (o.2).toInt64) :: az_wF g ax an au aw V T S hs) _ := hP
    have hD : va_D A (az_ou g ob (vp_updL f 0 (o.2).toInt64) :: az_wF g ax an au aw V T S hs) := hD
    refine lv_goto (tgt := 21) hx hb dL_block_10 (by decide) ?_
    refine lv_iconst (v := (0 : Int32)) hx hb dL_block_21 (by decide) ?_
    rw [← Option.some.inj h]
    exact az_iretT hx hb hr hlocks hK hP hD hS dL_block_22 (Nat.le_of_ble_eq_true rfl) (Nat.le_of_ble_eq_true rfl)

def FL_neededBy (V T : az_St) (S : Nat → az_St) (hs : Nat → Int32) (f : Nat → Int64) (x1 : Int32) : Option (Int32 × (Nat → Int64) × az_St × az_St × (Nat → az_St) × (Nat → Int32)) := (FX6_neededBy V x1).bind (fun o => if o.1 = 0 then some ((0 : Int32), vp_updL f 0 (o.2).toInt64, V, T, S, hs) else (if o.1 = 1 then some ((1 : Int32), f, V, T, S, hs) else none))
set_option maxHeartbeats 8000000 in
set_option maxRecDepth 100000 in
theorem kL_neededBy (l : Launch) (hst : l.stackTraces = false) (g : az_G) (sa : Nat → Nat) (ax an au : Nat → Nat) (aw : Nat → Nat → Nat) (ob : Nat) (V T : az_St) (S : Nat → az_St) (hs : Nat → Int32) (f : Nat → Int64) (x1 : Int32) (u : Int32 × (Nat → Int64) × az_St × az_St × (Nat → az_St) × (Nat → Int32)) (h : FL_neededBy V T S hs f x1 = some u) : az_TI l yL_neededBy wsL_neededBy ({ frames := 9, cells := 1, slots := 6, locals := 164 } : Room) [.ref (ax 0), .int x1, .ref ob] g sa (az_ou g ob f :: az_wF g ax an au aw V T S hs) 0 u.1 (az_ou g ob u.2.1 :: az_wF g ax an au aw u.2.2.1 u.2.2.2.1 u.2.2.2.2.1 u.2.2.2.2.2) 1 := by
  refine az_bodyTW (cc := cL_neededBy) (maxL := 4) (ret := (some .int)) (mc := 1) (ms := 6) (Qc := fun A => az_QTI g (az_ou g ob u.2.1 :: az_wF g ax an au aw u.2.2.1 u.2.2.2.1 u.2.2.2.2.1 u.2.2.2.2.2) 0 u.1 A) (XC := fun A => az_XT g (az_ou g ob u.2.1 :: az_wF g ax an au aw u.2.2.1 u.2.2.2.1 u.2.2.2.2.1 u.2.2.2.2.2) 0 A) (by decide +kernel) rfl (Nat.le_of_ble_eq_true rfl) ?_
  intro p e s m args below meth c A hx hb hr hts hown hml hlocks htab hcx hA hK hP hD hS ls hl
  have hl : lv_has ls 4 [(0, .ref (ax 0)), (1, .int x1), (2, .ref (ob))] := hl
  unfold FL_neededBy at h
  obtain ⟨o, hc9, h⟩ := az_bnd h
  refine lv_aload_n hx hb dL_neededBy_0 rfl (lv_at hl 2 rfl) ?_
  refine lv_iconst (v := (0 : Int32)) hx hb dL_neededBy_1 (by decide) ?_
  refine lv_aload_n hx hb dL_neededBy_2 rfl (lv_at hl 0 rfl) ?_
  refine lv_iload_n hx hb dL_neededBy_3 rfl (lv_at hl 1 rfl) ?_
  refine az_callPTi (wr := [az_ou g ob f]) (w2 := az_ou g ob f :: az_wF g ax an au aw V T S hs) (As := [.int x1]) (rest := [.int (0 : Int32), .ref (ob)]) ⟨hx, hb, hml, hown, hts⟩ hl.1 (kX6_neededBy l hst g sa ax an au (az_cV g au T ++ az_cH g ax aw S hs) V x1 o hc9) (cwV 1 hts gL_neededBy_X6_neededBy rfl rfl rfl (by decide +kernel) ⟨(Nat.le_of_ble_eq_true rfl), (Nat.le_of_ble_eq_true rfl)⟩) rfl hK hcx hP hD hS hA (List.perm_append_singleton _ _).symm (List.perm_append_singleton _ _) 0 rfl rfl rfl (Nat.le_of_ble_eq_true rfl) dL_neededBy_4 ⟨(Nat.le_of_ble_eq_true rfl), (Nat.le_of_ble_eq_true rfl)⟩ rfl (fun n0 ce q9 H locs hP hD hS hce hcv hcl => ?_) (fun n0 H locs hP hD hS => ?_)
  · replace h := az_neg n0 h
    by_cases c0 : o.1 = 1
    · replace h := az_pos c0 h
      rw [c0] at hcl
      refine vx_catch (E := "java/lang/IndexOutOfBoundsException") (name := "java/lang/IndexOutOfBoundsException") hown [] (⟨0, 9, 12, 19⟩ : ExceptionTableEntry) [] (htab.trans rfl) (fun z hz => absurd hz List.not_mem_nil) rfl (by decide) (hts _ (List.mem_of_getElem? (i := 1) rfl)) (va_Nw.use rfl (hcx.2.1 1)) hce hcv hcl ?_
      refine lv_astore_n (lv' := [(3, .ref (q9)), (0, .ref (ax 0)), (1, .int x1), (2, .ref (ob))]) hx hb dL_neededBy_12 rfl hl (by decide) rfl (fun ls hl => ?_)
      refine lv_iconst (v := (1 : Int32)) hx hb dL_neededBy_13 (by decide) ?_
      rw [← Option.some.inj h]
      exact az_iretT hx hb hr hlocks hK hP hD hS dL_neededBy_14 (Nat.le_of_ble_eq_true rfl) (Nat.le_of_ble_eq_true rfl)
    · replace h := az_neg c0 h
      exact az_non h
  · replace h := az_pos n0 h
    refine lv_i2l (v := (o.2).toInt64) hx hb dL_neededBy_7 rfl ?_
    refine va_last (D := g.1) (f := f) hx hb hK hP hD hS 0 2 rfl rfl (az_vin (by decide +kernel)) dL_neededBy_8 (fun H locs hP hD hS => ?_)
    have hP : va_P g.1 az_cl (az_ou g ob (vp_updL f 0 (o.2).toInt64) :: az_wF g ax an au aw V T S hs) _ := hP
    have hD : va_D A (az_ou g ob (vp_updL f 0 (o.2).toInt64) :: az_wF g ax an au aw V T S hs) := hD
    refine lv_goto (tgt := 15) hx hb dL_neededBy_9 (by decide) ?_
    refine lv_iconst (v := (0 : Int32)) hx hb dL_neededBy_15 (by decide) ?_
    rw [← Option.some.inj h]
    exact az_iretT hx hb hr hlocks hK hP hD hS dL_neededBy_16 (Nat.le_of_ble_eq_true rfl) (Nat.le_of_ble_eq_true rfl)

def FL_waiting (V T : az_St) (S : Nat → az_St) (hs : Nat → Int32) (f : Nat → Int64) (x1 : Int32) : Option (Int32 × (Nat → Int64) × az_St × az_St × (Nat → az_St) × (Nat → Int32)) := (FX6_waiting V x1).bind (fun o => if o.1 = 0 then some ((0 : Int32), vp_updL f 0 (o.2).toInt64, V, T, S, hs) else (if o.1 = 2 then some ((1 : Int32), f, V, T, S, hs) else none))
set_option maxHeartbeats 8000000 in
set_option maxRecDepth 100000 in
theorem kL_waiting (l : Launch) (hst : l.stackTraces = false) (g : az_G) (sa : Nat → Nat) (ax an au : Nat → Nat) (aw : Nat → Nat → Nat) (ob : Nat) (V T : az_St) (S : Nat → az_St) (hs : Nat → Int32) (f : Nat → Int64) (x1 : Int32) (u : Int32 × (Nat → Int64) × az_St × az_St × (Nat → az_St) × (Nat → Int32)) (h : FL_waiting V T S hs f x1 = some u) : az_TI l yL_waiting wsL_waiting ({ frames := 8, cells := 1, slots := 6, locals := 142 } : Room) [.ref (ax 0), .int x1, .ref ob] g sa (az_ou g ob f :: az_wF g ax an au aw V T S hs) 0 u.1 (az_ou g ob u.2.1 :: az_wF g ax an au aw u.2.2.1 u.2.2.2.1 u.2.2.2.2.1 u.2.2.2.2.2) 1 := by
  refine az_bodyTW (cc := cL_waiting) (maxL := 4) (ret := (some .int)) (mc := 1) (ms := 6) (Qc := fun A => az_QTI g (az_ou g ob u.2.1 :: az_wF g ax an au aw u.2.2.1 u.2.2.2.1 u.2.2.2.2.1 u.2.2.2.2.2) 0 u.1 A) (XC := fun A => az_XT g (az_ou g ob u.2.1 :: az_wF g ax an au aw u.2.2.1 u.2.2.2.1 u.2.2.2.2.1 u.2.2.2.2.2) 0 A) (by decide +kernel) rfl (Nat.le_of_ble_eq_true rfl) ?_
  intro p e s m args below meth c A hx hb hr hts hown hml hlocks htab hcx hA hK hP hD hS ls hl
  have hl : lv_has ls 4 [(0, .ref (ax 0)), (1, .int x1), (2, .ref (ob))] := hl
  unfold FL_waiting at h
  obtain ⟨o, hc9, h⟩ := az_bnd h
  refine lv_aload_n hx hb dL_waiting_0 rfl (lv_at hl 2 rfl) ?_
  refine lv_iconst (v := (0 : Int32)) hx hb dL_waiting_1 (by decide) ?_
  refine lv_aload_n hx hb dL_waiting_2 rfl (lv_at hl 0 rfl) ?_
  refine lv_iload_n hx hb dL_waiting_3 rfl (lv_at hl 1 rfl) ?_
  refine az_callPTi (wr := [az_ou g ob f]) (w2 := az_ou g ob f :: az_wF g ax an au aw V T S hs) (As := [.int x1]) (rest := [.int (0 : Int32), .ref (ob)]) ⟨hx, hb, hml, hown, hts⟩ hl.1 (kX6_waiting l hst g sa ax an au (az_cV g au T ++ az_cH g ax aw S hs) V x1 o hc9) (cwV 1 hts gL_waiting_X6_waiting rfl rfl rfl (by decide +kernel) ⟨(Nat.le_of_ble_eq_true rfl), (Nat.le_of_ble_eq_true rfl)⟩) rfl hK hcx hP hD hS hA (List.perm_append_singleton _ _).symm (List.perm_append_singleton _ _) 0 rfl rfl rfl (Nat.le_of_ble_eq_true rfl) dL_waiting_4 ⟨(Nat.le_of_ble_eq_true rfl), (Nat.le_of_ble_eq_true rfl)⟩ rfl (fun n0 ce q9 H locs hP hD hS hce hcv hcl => ?_) (fun n0 H locs hP hD hS => ?_)
  · replace h := az_neg n0 h
    by_cases c0 : o.1 = 2
    · replace h := az_pos c0 h
      rw [c0] at hcl
      refine vx_catch (E := "java/lang/IllegalArgumentException") (name := "java/lang/IllegalArgumentException") hown [] (⟨0, 9, 12, 13⟩ : ExceptionTableEntry) [] (htab.trans rfl) (fun z hz => absurd hz List.not_mem_nil) rfl (by decide) (hts _ (List.mem_of_getElem? (i := 1) rfl)) (va_Nw.use rfl (hcx.2.1 2)) hce hcv hcl ?_
      refine lv_astore_n (lv' := [(3, .ref (q9)), (0, .ref (ax 0)), (1, .int x1), (2, .ref (ob))]) hx hb dL_waiting_12 rfl hl (by decide) rfl (fun ls hl => ?_)
      refine lv_iconst (v := (1 : Int32)) hx hb dL_waiting_13 (by decide) ?_
      rw [← Option.some.inj h]
      exact az_iretT hx hb hr hlocks hK hP hD hS dL_waiting_14 (Nat.le_of_ble_eq_true rfl) (Nat.le_of_ble_eq_true rfl)
    · replace h := az_neg c0 h
      exact az_non h
  · replace h := az_pos n0 h
    refine lv_i2l (v := (o.2).toInt64) hx hb dL_waiting_7 rfl ?_
    refine va_last (D := g.1) (f := f) hx hb hK hP hD hS 0 2 rfl rfl (az_vin (by decide +kernel)) dL_waiting_8 (fun H locs hP hD hS => ?_)
    have hP : va_P g.1 az_cl (az_ou g ob (vp_updL f 0 (o.2).toInt64) :: az_wF g ax an au aw V T S hs) _ := hP
    have hD : va_D A (az_ou g ob (vp_updL f 0 (o.2).toInt64) :: az_wF g ax an au aw V T S hs) := hD
    refine lv_goto (tgt := 15) hx hb dL_waiting_9 (by decide) ?_
    refine lv_iconst (v := (0 : Int32)) hx hb dL_waiting_15 (by decide) ?_
    rw [← Option.some.inj h]
    exact az_iretT hx hb hr hlocks hK hP hD hS dL_waiting_16 (Nat.le_of_ble_eq_true rfl) (Nat.le_of_ble_eq_true rfl)

def FL_advancesToErase (V T : az_St) (S : Nat → az_St) (hs : Nat → Int32) (f : Nat → Int64) (x1 : Int32) : Option (Int32 × (Nat → Int64) × az_St × az_St × (Nat → az_St) × (Nat → Int32)) := (FX6_advancesToErase V x1).bind (fun o => if o.1 = 0 then some ((0 : Int32), vp_updL f 0 (o.2).toInt64, V, T, S, hs) else (if o.1 = 1 then some ((1 : Int32), f, V, T, S, hs) else if o.1 = 4 then some ((2 : Int32), f, V, T, S, hs) else none))
set_option maxHeartbeats 8000000 in
set_option maxRecDepth 100000 in
theorem kL_advancesToErase (l : Launch) (hst : l.stackTraces = false) (g : az_G) (sa : Nat → Nat) (ax an au : Nat → Nat) (aw : Nat → Nat → Nat) (ob : Nat) (V T : az_St) (S : Nat → az_St) (hs : Nat → Int32) (f : Nat → Int64) (x1 : Int32) (u : Int32 × (Nat → Int64) × az_St × az_St × (Nat → az_St) × (Nat → Int32)) (h : FL_advancesToErase V T S hs f x1 = some u) : az_TI l yL_advancesToErase wsL_advancesToErase ({ frames := 9, cells := 2, slots := 12, locals := 162 } : Room) [.ref (ax 0), .int x1, .ref ob] g sa (az_ou g ob f :: az_wF g ax an au aw V T S hs) 0 u.1 (az_ou g ob u.2.1 :: az_wF g ax an au aw u.2.2.1 u.2.2.2.1 u.2.2.2.2.1 u.2.2.2.2.2) 2 := by
  refine az_bodyTW (cc := cL_advancesToErase) (maxL := 4) (ret := (some .int)) (mc := 2) (ms := 12) (Qc := fun A => az_QTI g (az_ou g ob u.2.1 :: az_wF g ax an au aw u.2.2.1 u.2.2.2.1 u.2.2.2.2.1 u.2.2.2.2.2) 0 u.1 A) (XC := fun A => az_XT g (az_ou g ob u.2.1 :: az_wF g ax an au aw u.2.2.1 u.2.2.2.1 u.2.2.2.2.1 u.2.2.2.2.2) 0 A) (by decide +kernel) rfl (Nat.le_of_ble_eq_true rfl) ?_
  intro p e s m args below meth c A hx hb hr hts hown hml hlocks htab hcx hA hK hP hD hS ls hl
  have hl : lv_has ls 4 [(0, .ref (ax 0)), (1, .int x1), (2, .ref (ob))] := hl
  unfold FL_advancesToErase at h
  obtain ⟨o, hc9, h⟩ := az_bnd h
  refine lv_aload_n hx hb dL_advancesToErase_0 rfl (lv_at hl 2 rfl) ?_
  refine lv_iconst (v := (0 : Int32)) hx hb dL_advancesToErase_1 (by decide) ?_
  refine lv_aload_n hx hb dL_advancesToErase_2 rfl (lv_at hl 0 rfl) ?_
  refine lv_iload_n hx hb dL_advancesToErase_3 rfl (lv_at hl 1 rfl) ?_
  refine az_callPTi (wr := [az_ou g ob f]) (w2 := az_ou g ob f :: az_wF g ax an au aw V T S hs) (As := [.int x1]) (rest := [.int (0 : Int32), .ref (ob)]) ⟨hx, hb, hml, hown, hts⟩ hl.1 (kX6_advancesToErase l hst g sa ax an au (az_cV g au T ++ az_cH g ax aw S hs) V x1 o hc9) (cwV 1 hts gL_advancesToErase_X6_advancesToErase rfl rfl rfl (by decide +kernel) ⟨(Nat.le_of_ble_eq_true rfl), (Nat.le_of_ble_eq_true rfl)⟩) rfl hK hcx hP hD hS hA (List.perm_append_singleton _ _).symm (List.perm_append_singleton _ _) 0 rfl rfl rfl (Nat.le_of_ble_eq_true rfl) dL_advancesToErase_4 ⟨(Nat.le_of_ble_eq_true rfl), (Nat.le_of_ble_eq_true rfl)⟩ rfl (fun n0 ce q9 H locs hP hD hS hce hcv hcl => ?_) (fun n0 H locs hP hD hS => ?_)
  · replace h := az_neg n0 h
    by_cases c0 : o.1 = 1
    · replace h := az_pos c0 h
      rw [c0] at hcl
      refine vx_catch (E := "java/lang/IndexOutOfBoundsException") (name := "java/lang/IndexOutOfBoundsException") hown [] (⟨0, 9, 12, 19⟩ : ExceptionTableEntry) [(⟨0, 9, 15, 27⟩ : ExceptionTableEntry)] (htab.trans rfl) (fun z hz => absurd hz List.not_mem_nil) rfl (by decide) (hts _ (List.mem_of_getElem? (i := 1) rfl)) (va_Nw.use rfl (hcx.2.1 1)) hce hcv hcl ?_
      refine lv_astore_n (lv' := [(3, .ref (q9)), (0, .ref (ax 0)), (1, .int x1), (2, .ref (ob))]) hx hb dL_advancesToErase_12 rfl hl (by decide) rfl (fun ls hl => ?_)
      refine lv_iconst (v := (1 : Int32)) hx hb dL_advancesToErase_13 (by decide) ?_
      rw [← Option.some.inj h]
      exact az_iretT hx hb hr hlocks hK hP hD hS dL_advancesToErase_14 (Nat.le_of_ble_eq_true rfl) (Nat.le_of_ble_eq_true rfl)
    · replace h := az_neg c0 h
      by_cases c1 : o.1 = 4
      · replace h := az_pos c1 h
        rw [c1] at hcl
        refine vx_catch (E := "java/util/NoSuchElementException") (name := "java/util/NoSuchElementException") hown [(⟨0, 9, 12, 19⟩ : ExceptionTableEntry)] (⟨0, 9, 15, 27⟩ : ExceptionTableEntry) [] (htab.trans rfl) (fun z hz => by simp only [List.mem_cons, List.not_mem_nil, or_false] at hz; rcases hz with rfl; · exact Or.inr ⟨by decide, "java/lang/IndexOutOfBoundsException", (hts _ (List.mem_of_getElem? (i := 1) rfl)), hcx.2.2.1 4 1 (by decide +kernel)⟩) rfl (by decide) (hts _ (List.mem_of_getElem? (i := 2) rfl)) (va_Nw.use rfl (hcx.2.1 4)) hce hcv hcl ?_
        refine lv_astore_n (lv' := [(3, .ref (q9)), (0, .ref (ax 0)), (1, .int x1), (2, .ref (ob))]) hx hb dL_advancesToErase_15 rfl hl (by decide) rfl (fun ls hl => ?_)
        refine lv_iconst (v := (2 : Int32)) hx hb dL_advancesToErase_16 (by decide) ?_
        rw [← Option.some.inj h]
        exact az_iretT hx hb hr hlocks hK hP hD hS dL_advancesToErase_17 (Nat.le_of_ble_eq_true rfl) (Nat.le_of_ble_eq_true rfl)
      · replace h := az_neg c1 h
        exact az_non h
  · replace h := az_pos n0 h
    refine lv_i2l (v := (o.2).toInt64) hx hb dL_advancesToErase_7 rfl ?_
    refine va_last (D := g.1) (f := f) hx hb hK hP hD hS 0 2 rfl rfl (az_vin (by decide +kernel)) dL_advancesToErase_8 (fun H locs hP hD hS => ?_)
    have hP : va_P g.1 az_cl (az_ou g ob (vp_updL f 0 (o.2).toInt64) :: az_wF g ax an au aw V T S hs) _ := hP
    have hD : va_D A (az_ou g ob (vp_updL f 0 (o.2).toInt64) :: az_wF g ax an au aw V T S hs) := hD
    refine lv_goto (tgt := 18) hx hb dL_advancesToErase_9 (by decide) ?_
    refine lv_iconst (v := (0 : Int32)) hx hb dL_advancesToErase_18 (by decide) ?_
    rw [← Option.some.inj h]
    exact az_iretT hx hb hr hlocks hK hP hD hS dL_advancesToErase_19 (Nat.le_of_ble_eq_true rfl) (Nat.le_of_ble_eq_true rfl)

def FL_relocate (V T : az_St) (S : Nat → az_St) (hs : Nat → Int32) (f : Nat → Int64) (x1 : Int32) : Option (Int32 × (Nat → Int64) × az_St × az_St × (Nat → az_St) × (Nat → Int32)) := (FX6_relocate V T S hs x1).bind (fun o => if o.1 = 0 then some ((0 : Int32), vp_updL f 0 (o.2.1).toInt64, (va_up (va_up (va_up (va_up (va_up (va_up (va_up (va_up (va_up (va_up (va_up V 0 o.2.2.2.1) 2 o.2.2.2.2.1) 3 o.2.2.2.2.2.1) 5 o.2.2.2.2.2.2.1) 6 o.2.2.2.2.2.2.2.1) 7 o.2.2.2.2.2.2.2.2.1) 8 o.2.2.2.2.2.2.2.2.2.1) 9 o.2.2.2.2.2.2.2.2.2.2.1) 14 o.2.2.2.2.2.2.2.2.2.2.2.1) 15 o.2.2.2.2.2.2.2.2.2.2.2.2.1) 16 o.2.2.2.2.2.2.2.2.2.2.2.2.2.1), T, o.2.2.1, o.2.2.2.2.2.2.2.2.2.2.2.2.2.2) else (if o.1 = 1 then some ((1 : Int32), f, (va_up (va_up (va_up (va_up (va_up (va_up (va_up (va_up (va_up (va_up (va_up V 0 o.2.2.2.1) 2 o.2.2.2.2.1) 3 o.2.2.2.2.2.1) 5 o.2.2.2.2.2.2.1) 6 o.2.2.2.2.2.2.2.1) 7 o.2.2.2.2.2.2.2.2.1) 8 o.2.2.2.2.2.2.2.2.2.1) 9 o.2.2.2.2.2.2.2.2.2.2.1) 14 o.2.2.2.2.2.2.2.2.2.2.2.1) 15 o.2.2.2.2.2.2.2.2.2.2.2.2.1) 16 o.2.2.2.2.2.2.2.2.2.2.2.2.2.1), T, o.2.2.1, o.2.2.2.2.2.2.2.2.2.2.2.2.2.2) else if o.1 = 3 then some ((2 : Int32), f, (va_up (va_up (va_up (va_up (va_up (va_up (va_up (va_up (va_up (va_up (va_up V 0 o.2.2.2.1) 2 o.2.2.2.2.1) 3 o.2.2.2.2.2.1) 5 o.2.2.2.2.2.2.1) 6 o.2.2.2.2.2.2.2.1) 7 o.2.2.2.2.2.2.2.2.1) 8 o.2.2.2.2.2.2.2.2.2.1) 9 o.2.2.2.2.2.2.2.2.2.2.1) 14 o.2.2.2.2.2.2.2.2.2.2.2.1) 15 o.2.2.2.2.2.2.2.2.2.2.2.2.1) 16 o.2.2.2.2.2.2.2.2.2.2.2.2.2.1), T, o.2.2.1, o.2.2.2.2.2.2.2.2.2.2.2.2.2.2) else none))
set_option maxHeartbeats 8000000 in
set_option maxRecDepth 100000 in
theorem kL_relocate (l : Launch) (hst : l.stackTraces = false) (g : az_G) (sa : Nat → Nat) (ax an au : Nat → Nat) (aw : Nat → Nat → Nat) (ob : Nat) (V T : az_St) (S : Nat → az_St) (hs : Nat → Int32) (f : Nat → Int64) (x1 : Int32) (u : Int32 × (Nat → Int64) × az_St × az_St × (Nat → az_St) × (Nat → Int32)) (h : FL_relocate V T S hs f x1 = some u) : az_TI l yL_relocate wsL_relocate ({ frames := 9, cells := 3, slots := 18, locals := 185 } : Room) [.ref (ax 0), .int x1, .ref ob] g sa (az_ou g ob f :: az_wF g ax an au aw V T S hs) 0 u.1 (az_ou g ob u.2.1 :: az_wF g ax an au aw u.2.2.1 u.2.2.2.1 u.2.2.2.2.1 u.2.2.2.2.2) 3 := by
  refine az_bodyTW (cc := cL_relocate) (maxL := 4) (ret := (some .int)) (mc := 3) (ms := 18) (Qc := fun A => az_QTI g (az_ou g ob u.2.1 :: az_wF g ax an au aw u.2.2.1 u.2.2.2.1 u.2.2.2.2.1 u.2.2.2.2.2) 0 u.1 A) (XC := fun A => az_XT g (az_ou g ob u.2.1 :: az_wF g ax an au aw u.2.2.1 u.2.2.2.1 u.2.2.2.2.1 u.2.2.2.2.2) 0 A) (by decide +kernel) rfl (Nat.le_of_ble_eq_true rfl) ?_
  intro p e s m args below meth c A hx hb hr hts hown hml hlocks htab hcx hA hK hP hD hS ls hl
  have hl : lv_has ls 4 [(0, .ref (ax 0)), (1, .int x1), (2, .ref (ob))] := hl
  unfold FL_relocate at h
  obtain ⟨o, hc9, h⟩ := az_bnd h
  refine lv_aload_n hx hb dL_relocate_0 rfl (lv_at hl 2 rfl) ?_
  refine lv_iconst (v := (0 : Int32)) hx hb dL_relocate_1 (by decide) ?_
  refine lv_aload_n hx hb dL_relocate_2 rfl (lv_at hl 0 rfl) ?_
  refine lv_iload_n hx hb dL_relocate_3 rfl (lv_at hl 1 rfl) ?_
  refine az_callPTi (wr := [az_ou g ob f]) (w2 := az_ou g ob f :: az_wF g ax an au aw (va_up (va_up (va_up (va_up (va_up (va_up (va_up (va_up (va_up (va_up (va_up V 0 o.2.2.2.1) 2 o.2.2.2.2.1) 3 o.2.2.2.2.2.1) 5 o.2.2.2.2.2.2.1) 6 o.2.2.2.2.2.2.2.1) 7 o.2.2.2.2.2.2.2.2.1) 8 o.2.2.2.2.2.2.2.2.2.1) 9 o.2.2.2.2.2.2.2.2.2.2.1) 14 o.2.2.2.2.2.2.2.2.2.2.2.1) 15 o.2.2.2.2.2.2.2.2.2.2.2.2.1) 16 o.2.2.2.2.2.2.2.2.2.2.2.2.2.1) T o.2.2.1 o.2.2.2.2.2.2.2.2.2.2.2.2.2.2) (As := [.int x1]) (rest := [.int (0 : Int32), .ref (ob)]) ⟨hx, hb, hml, hown, hts⟩ hl.1 (kX6_relocate l hst g sa ax an au aw V T S hs x1 o hc9) (cwV 1 hts gL_relocate_X6_relocate rfl rfl rfl (by decide +kernel) ⟨(Nat.le_of_ble_eq_true rfl), (Nat.le_of_ble_eq_true rfl)⟩) rfl hK hcx hP hD hS hA (List.perm_append_singleton _ _).symm (List.perm_append_singleton _ _) 0 rfl rfl rfl (Nat.le_of_ble_eq_true rfl) dL_relocate_4 ⟨(Nat.le_of_ble_eq_true rfl), (Nat.le_of_ble_eq_true rfl)⟩ rfl (fun n0 ce q9 H locs hP hD hS hce hcv hcl => ?_) (fun n0 H locs hP hD hS => ?_)
  · replace h := az_neg n0 h
    by_cases c0 : o.1 = 1
    · replace h := az_pos c0 h
      rw [c0] at hcl
      refine vx_catch (E := "java/lang/IndexOutOfBoundsException") (name := "java/lang/IndexOutOfBoundsException") hown [] (⟨0, 9, 12, 19⟩ : ExceptionTableEntry) [(⟨0, 9, 15, 21⟩ : ExceptionTableEntry)] (htab.trans rfl) (fun z hz => absurd hz List.not_mem_nil) rfl (by decide) (hts _ (List.mem_of_getElem? (i := 1) rfl)) (va_Nw.use rfl (hcx.2.1 1)) hce hcv hcl ?_
      refine lv_astore_n (lv' := [(3, .ref (q9)), (0, .ref (ax 0)), (1, .int x1), (2, .ref (ob))]) hx hb dL_relocate_12 rfl hl (by decide) rfl (fun ls hl => ?_)
      refine lv_iconst (v := (1 : Int32)) hx hb dL_relocate_13 (by decide) ?_
      rw [← Option.some.inj h]
      exact az_iretT hx hb hr hlocks hK hP hD hS dL_relocate_14 (Nat.le_of_ble_eq_true rfl) (Nat.le_of_ble_eq_true rfl)
    · replace h := az_neg c0 h
      by_cases c1 : o.1 = 3
      · replace h := az_pos c1 h
        rw [c1] at hcl
        refine vx_catch (E := "java/lang/IllegalStateException") (name := "java/lang/IllegalStateException") hown [(⟨0, 9, 12, 19⟩ : ExceptionTableEntry)] (⟨0, 9, 15, 21⟩ : ExceptionTableEntry) [] (htab.trans rfl) (fun z hz => by simp only [List.mem_cons, List.not_mem_nil, or_false] at hz; rcases hz with rfl; · exact Or.inr ⟨by decide, "java/lang/IndexOutOfBoundsException", (hts _ (List.mem_of_getElem? (i := 1) rfl)), hcx.2.2.1 3 1 (by decide +kernel)⟩) rfl (by decide) (hts _ (List.mem_of_getElem? (i := 2) rfl)) (va_Nw.use rfl (hcx.2.1 3)) hce hcv hcl ?_
        refine lv_astore_n (lv' := [(3, .ref (q9)), (0, .ref (ax 0)), (1, .int x1), (2, .ref (ob))]) hx hb dL_relocate_15 rfl hl (by decide) rfl (fun ls hl => ?_)
        refine lv_iconst (v := (2 : Int32)) hx hb dL_relocate_16 (by decide) ?_
        rw [← Option.some.inj h]
        exact az_iretT hx hb hr hlocks hK hP hD hS dL_relocate_17 (Nat.le_of_ble_eq_true rfl) (Nat.le_of_ble_eq_true rfl)
      · replace h := az_neg c1 h
        exact az_non h
  · replace h := az_pos n0 h
    refine lv_i2l (v := (o.2.1).toInt64) hx hb dL_relocate_7 rfl ?_
    refine va_last (D := g.1) (f := f) hx hb hK hP hD hS 0 2 rfl rfl (az_vin (by decide +kernel)) dL_relocate_8 (fun H locs hP hD hS => ?_)
    have hP : va_P g.1 az_cl (az_ou g ob (vp_updL f 0 (o.2.1).toInt64) :: az_wF g ax an au aw (va_up (va_up (va_up (va_up (va_up (va_up (va_up (va_up (va_up (va_up (va_up V 0 o.2.2.2.1) 2 o.2.2.2.2.1) 3 o.2.2.2.2.2.1) 5 o.2.2.2.2.2.2.1) 6 o.2.2.2.2.2.2.2.1) 7 o.2.2.2.2.2.2.2.2.1) 8 o.2.2.2.2.2.2.2.2.2.1) 9 o.2.2.2.2.2.2.2.2.2.2.1) 14 o.2.2.2.2.2.2.2.2.2.2.2.1) 15 o.2.2.2.2.2.2.2.2.2.2.2.2.1) 16 o.2.2.2.2.2.2.2.2.2.2.2.2.2.1) T o.2.2.1 o.2.2.2.2.2.2.2.2.2.2.2.2.2.2) _ := hP
    have hD : va_D A (az_ou g ob (vp_updL f 0 (o.2.1).toInt64) :: az_wF g ax an au aw (va_up (va_up (va_up (va_up (va_up (va_up (va_up (va_up (va_up (va_up (va_up V 0 o.2.2.2.1) 2 o.2.2.2.2.1) 3 o.2.2.2.2.2.1) 5 o.2.2.2.2.2.2.1) 6 o.2.2.2.2.2.2.2.1) 7 o.2.2.2.2.2.2.2.2.1) 8 o.2.2.2.2.2.2.2.2.2.1) 9 o.2.2.2.2.2.2.2.2.2.2.1) 14 o.2.2.2.2.2.2.2.2.2.2.2.1) 15 o.2.2.2.2.2.2.2.2.2.2.2.2.1) 16 o.2.2.2.2.2.2.2.2.2.2.2.2.2.1) T o.2.2.1 o.2.2.2.2.2.2.2.2.2.2.2.2.2.2) := hD
    refine lv_goto (tgt := 18) hx hb dL_relocate_9 (by decide) ?_
    refine lv_iconst (v := (0 : Int32)) hx hb dL_relocate_18 (by decide) ?_
    rw [← Option.some.inj h]
    exact az_iretT hx hb hr hlocks hK hP hD hS dL_relocate_19 (Nat.le_of_ble_eq_true rfl) (Nat.le_of_ble_eq_true rfl)

def FL_victim (V T : az_St) (S : Nat → az_St) (hs : Nat → Int32) (f : Nat → Int64) (x1 : Int32) : Option (Int32 × (Nat → Int64) × az_St × az_St × (Nat → az_St) × (Nat → Int32)) := (FX6_victim V x1).bind (fun o => if o.1 = 0 then some ((0 : Int32), vp_updL f 0 (o.2).toInt64, V, T, S, hs) else (if o.1 = 2 then some ((1 : Int32), f, V, T, S, hs) else if o.1 = 4 then some ((2 : Int32), f, V, T, S, hs) else none))
set_option maxHeartbeats 8000000 in
set_option maxRecDepth 100000 in
theorem kL_victim (l : Launch) (hst : l.stackTraces = false) (g : az_G) (sa : Nat → Nat) (ax an au : Nat → Nat) (aw : Nat → Nat → Nat) (ob : Nat) (V T : az_St) (S : Nat → az_St) (hs : Nat → Int32) (f : Nat → Int64) (x1 : Int32) (u : Int32 × (Nat → Int64) × az_St × az_St × (Nat → az_St) × (Nat → Int32)) (h : FL_victim V T S hs f x1 = some u) : az_TI l yL_victim wsL_victim ({ frames := 8, cells := 2, slots := 12, locals := 159 } : Room) [.ref (ax 0), .int x1, .ref ob] g sa (az_ou g ob f :: az_wF g ax an au aw V T S hs) 0 u.1 (az_ou g ob u.2.1 :: az_wF g ax an au aw u.2.2.1 u.2.2.2.1 u.2.2.2.2.1 u.2.2.2.2.2) 2 := by
  refine az_bodyTW (cc := cL_victim) (maxL := 4) (ret := (some .int)) (mc := 2) (ms := 12) (Qc := fun A => az_QTI g (az_ou g ob u.2.1 :: az_wF g ax an au aw u.2.2.1 u.2.2.2.1 u.2.2.2.2.1 u.2.2.2.2.2) 0 u.1 A) (XC := fun A => az_XT g (az_ou g ob u.2.1 :: az_wF g ax an au aw u.2.2.1 u.2.2.2.1 u.2.2.2.2.1 u.2.2.2.2.2) 0 A) (by decide +kernel) rfl (Nat.le_of_ble_eq_true rfl) ?_
  intro p e s m args below meth c A hx hb hr hts hown hml hlocks htab hcx hA hK hP hD hS ls hl
  have hl : lv_has ls 4 [(0, .ref (ax 0)), (1, .int x1), (2, .ref (ob))] := hl
  unfold FL_victim at h
  obtain ⟨o, hc9, h⟩ := az_bnd h
  refine lv_aload_n hx hb dL_victim_0 rfl (lv_at hl 2 rfl) ?_
  refine lv_iconst (v := (0 : Int32)) hx hb dL_victim_1 (by decide) ?_
  refine lv_aload_n hx hb dL_victim_2 rfl (lv_at hl 0 rfl) ?_
  refine lv_iload_n hx hb dL_victim_3 rfl (lv_at hl 1 rfl) ?_
  refine az_callPTi (wr := [az_ou g ob f]) (w2 := az_ou g ob f :: az_wF g ax an au aw V T S hs) (As := [.int x1]) (rest := [.int (0 : Int32), .ref (ob)]) ⟨hx, hb, hml, hown, hts⟩ hl.1 (kX6_victim l hst g sa ax an au (az_cV g au T ++ az_cH g ax aw S hs) V x1 o hc9) (cwV 1 hts gL_victim_X6_victim rfl rfl rfl (by decide +kernel) ⟨(Nat.le_of_ble_eq_true rfl), (Nat.le_of_ble_eq_true rfl)⟩) rfl hK hcx hP hD hS hA (List.perm_append_singleton _ _).symm (List.perm_append_singleton _ _) 0 rfl rfl rfl (Nat.le_of_ble_eq_true rfl) dL_victim_4 ⟨(Nat.le_of_ble_eq_true rfl), (Nat.le_of_ble_eq_true rfl)⟩ rfl (fun n0 ce q9 H locs hP hD hS hce hcv hcl => ?_) (fun n0 H locs hP hD hS => ?_)
  · replace h := az_neg n0 h
    by_cases c0 : o.1 = 2
    · replace h := az_pos c0 h
      rw [c0] at hcl
      refine vx_catch (E := "java/lang/IllegalArgumentException") (name := "java/lang/IllegalArgumentException") hown [] (⟨0, 9, 12, 13⟩ : ExceptionTableEntry) [(⟨0, 9, 15, 27⟩ : ExceptionTableEntry)] (htab.trans rfl) (fun z hz => absurd hz List.not_mem_nil) rfl (by decide) (hts _ (List.mem_of_getElem? (i := 1) rfl)) (va_Nw.use rfl (hcx.2.1 2)) hce hcv hcl ?_
      refine lv_astore_n (lv' := [(3, .ref (q9)), (0, .ref (ax 0)), (1, .int x1), (2, .ref (ob))]) hx hb dL_victim_12 rfl hl (by decide) rfl (fun ls hl => ?_)
      refine lv_iconst (v := (1 : Int32)) hx hb dL_victim_13 (by decide) ?_
      rw [← Option.some.inj h]
      exact az_iretT hx hb hr hlocks hK hP hD hS dL_victim_14 (Nat.le_of_ble_eq_true rfl) (Nat.le_of_ble_eq_true rfl)
    · replace h := az_neg c0 h
      by_cases c1 : o.1 = 4
      · replace h := az_pos c1 h
        rw [c1] at hcl
        refine vx_catch (E := "java/util/NoSuchElementException") (name := "java/util/NoSuchElementException") hown [(⟨0, 9, 12, 13⟩ : ExceptionTableEntry)] (⟨0, 9, 15, 27⟩ : ExceptionTableEntry) [] (htab.trans rfl) (fun z hz => by simp only [List.mem_cons, List.not_mem_nil, or_false] at hz; rcases hz with rfl; · exact Or.inr ⟨by decide, "java/lang/IllegalArgumentException", (hts _ (List.mem_of_getElem? (i := 1) rfl)), hcx.2.2.1 4 2 (by decide +kernel)⟩) rfl (by decide) (hts _ (List.mem_of_getElem? (i := 2) rfl)) (va_Nw.use rfl (hcx.2.1 4)) hce hcv hcl ?_
        refine lv_astore_n (lv' := [(3, .ref (q9)), (0, .ref (ax 0)), (1, .int x1), (2, .ref (ob))]) hx hb dL_victim_15 rfl hl (by decide) rfl (fun ls hl => ?_)
        refine lv_iconst (v := (2 : Int32)) hx hb dL_victim_16 (by decide) ?_
        rw [← Option.some.inj h]
        exact az_iretT hx hb hr hlocks hK hP hD hS dL_victim_17 (Nat.le_of_ble_eq_true rfl) (Nat.le_of_ble_eq_true rfl)
      · replace h := az_neg c1 h
        exact az_non h
  · replace h := az_pos n0 h
    refine lv_i2l (v := (o.2).toInt64) hx hb dL_victim_7 rfl ?_
    refine va_last (D := g.1) (f := f) hx hb hK hP hD hS 0 2 rfl rfl (az_vin (by decide +kernel)) dL_victim_8 (fun H locs hP hD hS => ?_)
    have hP : va_P g.1 az_cl (az_ou g ob (vp_updL f 0 (o.2).toInt64) :: az_wF g ax an au aw V T S hs) _ := hP
    have hD : va_D A (az_ou g ob (vp_updL f 0 (o.2).toInt64) :: az_wF g ax an au aw V T S hs) := hD
    refine lv_goto (tgt := 18) hx hb dL_victim_9 (by decide) ?_
    refine lv_iconst (v := (0 : Int32)) hx hb dL_victim_18 (by decide) ?_
    rw [← Option.some.inj h]
    exact az_iretT hx hb hr hlocks hK hP hD hS dL_victim_19 (Nat.le_of_ble_eq_true rfl) (Nat.le_of_ble_eq_true rfl)

def FL_relocationsFor (V T : az_St) (S : Nat → az_St) (hs : Nat → Int32) (f : Nat → Int64) (x1 : Int32) (x2 : Int32) : Option (Int32 × (Nat → Int64) × az_St × az_St × (Nat → az_St) × (Nat → Int32)) := (FX6_relocationsFor V T S hs x1 x2).bind (fun o => if o.1 = 0 then some ((0 : Int32), vp_updL f 0 (o.2.1).toInt64, V, (va_up (va_up (va_up (va_up (va_up (va_up (va_up (va_up (va_up (va_up (va_up (va_up (va_up (va_up (va_up (va_up (va_up T 0 o.2.2.1) 1 o.2.2.2.1) 2 o.2.2.2.2.1) 3 o.2.2.2.2.2.1) 4 o.2.2.2.2.2.2.1) 5 o.2.2.2.2.2.2.2.1) 6 o.2.2.2.2.2.2.2.2.1) 7 o.2.2.2.2.2.2.2.2.2.1) 8 o.2.2.2.2.2.2.2.2.2.2.1) 9 o.2.2.2.2.2.2.2.2.2.2.2.1) 10 o.2.2.2.2.2.2.2.2.2.2.2.2.1) 11 o.2.2.2.2.2.2.2.2.2.2.2.2.2.1) 12 o.2.2.2.2.2.2.2.2.2.2.2.2.2.2.1) 13 o.2.2.2.2.2.2.2.2.2.2.2.2.2.2.2.1) 14 o.2.2.2.2.2.2.2.2.2.2.2.2.2.2.2.2.1) 15 o.2.2.2.2.2.2.2.2.2.2.2.2.2.2.2.2.2.1) 16 o.2.2.2.2.2.2.2.2.2.2.2.2.2.2.2.2.2.2), S, hs) else (if o.1 = 2 then some ((1 : Int32), f, V, (va_up (va_up (va_up (va_up (va_up (va_up (va_up (va_up (va_up (va_up (va_up (va_up (va_up (va_up (va_up (va_up (va_up T 0 o.2.2.1) 1 o.2.2.2.1) 2 o.2.2.2.2.1) 3 o.2.2.2.2.2.1) 4 o.2.2.2.2.2.2.1) 5 o.2.2.2.2.2.2.2.1) 6 o.2.2.2.2.2.2.2.2.1) 7 o.2.2.2.2.2.2.2.2.2.1) 8 o.2.2.2.2.2.2.2.2.2.2.1) 9 o.2.2.2.2.2.2.2.2.2.2.2.1) 10 o.2.2.2.2.2.2.2.2.2.2.2.2.1) 11 o.2.2.2.2.2.2.2.2.2.2.2.2.2.1) 12 o.2.2.2.2.2.2.2.2.2.2.2.2.2.2.1) 13 o.2.2.2.2.2.2.2.2.2.2.2.2.2.2.2.1) 14 o.2.2.2.2.2.2.2.2.2.2.2.2.2.2.2.2.1) 15 o.2.2.2.2.2.2.2.2.2.2.2.2.2.2.2.2.2.1) 16 o.2.2.2.2.2.2.2.2.2.2.2.2.2.2.2.2.2.2), S, hs) else if o.1 = 4 then some ((2 : Int32), f, V, (va_up (va_up (va_up (va_up (va_up (va_up (va_up (va_up (va_up (va_up (va_up (va_up (va_up (va_up (va_up (va_up (va_up T 0 o.2.2.1) 1 o.2.2.2.1) 2 o.2.2.2.2.1) 3 o.2.2.2.2.2.1) 4 o.2.2.2.2.2.2.1) 5 o.2.2.2.2.2.2.2.1) 6 o.2.2.2.2.2.2.2.2.1) 7 o.2.2.2.2.2.2.2.2.2.1) 8 o.2.2.2.2.2.2.2.2.2.2.1) 9 o.2.2.2.2.2.2.2.2.2.2.2.1) 10 o.2.2.2.2.2.2.2.2.2.2.2.2.1) 11 o.2.2.2.2.2.2.2.2.2.2.2.2.2.1) 12 o.2.2.2.2.2.2.2.2.2.2.2.2.2.2.1) 13 o.2.2.2.2.2.2.2.2.2.2.2.2.2.2.2.1) 14 o.2.2.2.2.2.2.2.2.2.2.2.2.2.2.2.2.1) 15 o.2.2.2.2.2.2.2.2.2.2.2.2.2.2.2.2.2.1) 16 o.2.2.2.2.2.2.2.2.2.2.2.2.2.2.2.2.2.2), S, hs) else none))
set_option maxHeartbeats 8000000 in
set_option maxRecDepth 100000 in
theorem kL_relocationsFor (l : Launch) (hst : l.stackTraces = false) (g : az_G) (sa : Nat → Nat) (ax an au : Nat → Nat) (aw : Nat → Nat → Nat) (ob : Nat) (V T : az_St) (S : Nat → az_St) (hs : Nat → Int32) (f : Nat → Int64) (x1 : Int32) (x2 : Int32) (u : Int32 × (Nat → Int64) × az_St × az_St × (Nat → az_St) × (Nat → Int32)) (h : FL_relocationsFor V T S hs f x1 x2 = some u) : az_TI l yL_relocationsFor wsL_relocationsFor ({ frames := 8, cells := 3, slots := 18, locals := 184 } : Room) [.ref (ax 0), .int x1, .int x2, .ref ob] g sa (az_ou g ob f :: az_wF g ax an au aw V T S hs) 0 u.1 (az_ou g ob u.2.1 :: az_wF g ax an au aw u.2.2.1 u.2.2.2.1 u.2.2.2.2.1 u.2.2.2.2.2) 3 := by
  refine az_bodyTW (cc := cL_relocationsFor) (maxL := 5) (ret := (some .int)) (mc := 3) (ms := 18) (Qc := fun A => az_QTI g (az_ou g ob u.2.1 :: az_wF g ax an au aw u.2.2.1 u.2.2.2.1 u.2.2.2.2.1 u.2.2.2.2.2) 0 u.1 A) (XC := fun A => az_XT g (az_ou g ob u.2.1 :: az_wF g ax an au aw u.2.2.1 u.2.2.2.1 u.2.2.2.2.1 u.2.2.2.2.2) 0 A) (by decide +kernel) rfl (Nat.le_of_ble_eq_true rfl) ?_
  intro p e s m args below meth c A hx hb hr hts hown hml hlocks htab hcx hA hK hP hD hS ls hl
  have hl : lv_has ls 5 [(0, .ref (ax 0)), (1, .int x1), (2, .int x2), (3, .ref (ob))] := hl
  unfold FL_relocationsFor at h
  obtain ⟨o, hc9, h⟩ := az_bnd h
  refine lv_aload_n hx hb dL_relocationsFor_0 rfl (lv_at hl 3 rfl) ?_
  refine lv_iconst (v := (0 : Int32)) hx hb dL_relocationsFor_1 (by decide) ?_
  refine lv_aload_n hx hb dL_relocationsFor_2 rfl (lv_at hl 0 rfl) ?_
  refine lv_iload_n hx hb dL_relocationsFor_3 rfl (lv_at hl 1 rfl) ?_
  refine lv_iload_n hx hb dL_relocationsFor_4 rfl (lv_at hl 2 rfl) ?_
  refine az_callPTi (wr := [az_ou g ob f]) (w2 := az_ou g ob f :: az_wF g ax an au aw V (va_up (va_up (va_up (va_up (va_up (va_up (va_up (va_up (va_up (va_up (va_up (va_up (va_up (va_up (va_up (va_up (va_up T 0 o.2.2.1) 1 o.2.2.2.1) 2 o.2.2.2.2.1) 3 o.2.2.2.2.2.1) 4 o.2.2.2.2.2.2.1) 5 o.2.2.2.2.2.2.2.1) 6 o.2.2.2.2.2.2.2.2.1) 7 o.2.2.2.2.2.2.2.2.2.1) 8 o.2.2.2.2.2.2.2.2.2.2.1) 9 o.2.2.2.2.2.2.2.2.2.2.2.1) 10 o.2.2.2.2.2.2.2.2.2.2.2.2.1) 11 o.2.2.2.2.2.2.2.2.2.2.2.2.2.1) 12 o.2.2.2.2.2.2.2.2.2.2.2.2.2.2.1) 13 o.2.2.2.2.2.2.2.2.2.2.2.2.2.2.2.1) 14 o.2.2.2.2.2.2.2.2.2.2.2.2.2.2.2.2.1) 15 o.2.2.2.2.2.2.2.2.2.2.2.2.2.2.2.2.2.1) 16 o.2.2.2.2.2.2.2.2.2.2.2.2.2.2.2.2.2.2) S hs) (As := [.int x1, .int x2]) (rest := [.int (0 : Int32), .ref (ob)]) ⟨hx, hb, hml, hown, hts⟩ hl.1 (kX6_relocationsFor l hst g sa ax an au aw V T S hs x1 x2 o hc9) (cwV 2 hts gL_relocationsFor_X6_relocationsFor rfl rfl rfl (by decide +kernel) ⟨(Nat.le_of_ble_eq_true rfl), (Nat.le_of_ble_eq_true rfl)⟩) rfl hK hcx hP hD hS hA (List.perm_append_singleton _ _).symm (List.perm_append_singleton _ _) 0 rfl rfl rfl (Nat.le_of_ble_eq_true rfl) dL_relocationsFor_5 ⟨(Nat.le_of_ble_eq_true rfl), (Nat.le_of_ble_eq_true rfl)⟩ rfl (fun n0 ce q9 H locs hP hD hS hce hcv hcl => ?_) (fun n0 H locs hP hD hS => ?_)
  · replace h := az_neg n0 h
    by_cases c0 : o.1 = 2
    · replace h := az_pos c0 h
      rw [c0] at hcl
      refine vx_catch (E := "java/lang/IllegalArgumentException") (name := "java/lang/IllegalArgumentException") hown [] (⟨0, 10, 13, 13⟩ : ExceptionTableEntry) [(⟨0, 10, 17, 27⟩ : ExceptionTableEntry)] (htab.trans rfl) (fun z hz => absurd hz List.not_mem_nil) rfl (by decide) (hts _ (List.mem_of_getElem? (i := 1) rfl)) (va_Nw.use rfl (hcx.2.1 2)) hce hcv hcl ?_
      refine lv_astore (lv' := [(4, .ref (q9)), (0, .ref (ax 0)), (1, .int x1), (2, .int x2), (3, .ref (ob))]) hx hb dL_relocationsFor_13 hl (by decide) rfl (fun ls hl => ?_)
      refine lv_iconst (v := (1 : Int32)) hx hb dL_relocationsFor_15 (by decide) ?_
      rw [← Option.some.inj h]
      exact az_iretT hx hb hr hlocks hK hP hD hS dL_relocationsFor_16 (Nat.le_of_ble_eq_true rfl) (Nat.le_of_ble_eq_true rfl)
    · replace h := az_neg c0 h
      by_cases c1 : o.1 = 4
      · replace h := az_pos c1 h
        rw [c1] at hcl
        refine vx_catch (E := "java/util/NoSuchElementException") (name := "java/util/NoSuchElementException") hown [(⟨0, 10, 13, 13⟩ : ExceptionTableEntry)] (⟨0, 10, 17, 27⟩ : ExceptionTableEntry) [] (htab.trans rfl) (fun z hz => by simp only [List.mem_cons, List.not_mem_nil, or_false] at hz; rcases hz with rfl; · exact Or.inr ⟨by decide, "java/lang/IllegalArgumentException", (hts _ (List.mem_of_getElem? (i := 1) rfl)), hcx.2.2.1 4 2 (by decide +kernel)⟩) rfl (by decide) (hts _ (List.mem_of_getElem? (i := 2) rfl)) (va_Nw.use rfl (hcx.2.1 4)) hce hcv hcl ?_
        refine lv_astore (lv' := [(4, .ref (q9)), (0, .ref (ax 0)), (1, .int x1), (2, .int x2), (3, .ref (ob))]) hx hb dL_relocationsFor_17 hl (by decide) rfl (fun ls hl => ?_)
        refine lv_iconst (v := (2 : Int32)) hx hb dL_relocationsFor_19 (by decide) ?_
        rw [← Option.some.inj h]
        exact az_iretT hx hb hr hlocks hK hP hD hS dL_relocationsFor_20 (Nat.le_of_ble_eq_true rfl) (Nat.le_of_ble_eq_true rfl)
      · replace h := az_neg c1 h
        exact az_non h
  · replace h := az_pos n0 h
    refine lv_i2l (v := (o.2.1).toInt64) hx hb dL_relocationsFor_8 rfl ?_
    refine va_last (D := g.1) (f := f) hx hb hK hP hD hS 0 2 rfl rfl (az_vin (by decide +kernel)) dL_relocationsFor_9 (fun H locs hP hD hS => ?_)
    have hP : va_P g.1 az_cl (az_ou g ob (vp_updL f 0 (o.2.1).toInt64) :: az_wF g ax an au aw V (va_up (va_up (va_up (va_up (va_up (va_up (va_up (va_up (va_up (va_up (va_up (va_up (va_up (va_up (va_up (va_up (va_up T 0 o.2.2.1) 1 o.2.2.2.1) 2 o.2.2.2.2.1) 3 o.2.2.2.2.2.1) 4 o.2.2.2.2.2.2.1) 5 o.2.2.2.2.2.2.2.1) 6 o.2.2.2.2.2.2.2.2.1) 7 o.2.2.2.2.2.2.2.2.2.1) 8 o.2.2.2.2.2.2.2.2.2.2.1) 9 o.2.2.2.2.2.2.2.2.2.2.2.1) 10 o.2.2.2.2.2.2.2.2.2.2.2.2.1) 11 o.2.2.2.2.2.2.2.2.2.2.2.2.2.1) 12 o.2.2.2.2.2.2.2.2.2.2.2.2.2.2.1) 13 o.2.2.2.2.2.2.2.2.2.2.2.2.2.2.2.1) 14 o.2.2.2.2.2.2.2.2.2.2.2.2.2.2.2.2.1) 15 o.2.2.2.2.2.2.2.2.2.2.2.2.2.2.2.2.2.1) 16 o.2.2.2.2.2.2.2.2.2.2.2.2.2.2.2.2.2.2) S hs) _ := hP
    have hD : va_D A (az_ou g ob (vp_updL f 0 (o.2.1).toInt64) :: az_wF g ax an au aw V (va_up (va_up (va_up (va_up (va_up (va_up (va_up (va_up (va_up (va_up (va_up (va_up (va_up (va_up (va_up (va_up (va_up T 0 o.2.2.1) 1 o.2.2.2.1) 2 o.2.2.2.2.1) 3 o.2.2.2.2.2.1) 4 o.2.2.2.2.2.2.1) 5 o.2.2.2.2.2.2.2.1) 6 o.2.2.2.2.2.2.2.2.1) 7 o.2.2.2.2.2.2.2.2.2.1) 8 o.2.2.2.2.2.2.2.2.2.2.1) 9 o.2.2.2.2.2.2.2.2.2.2.2.1) 10 o.2.2.2.2.2.2.2.2.2.2.2.2.1) 11 o.2.2.2.2.2.2.2.2.2.2.2.2.2.1) 12 o.2.2.2.2.2.2.2.2.2.2.2.2.2.2.1) 13 o.2.2.2.2.2.2.2.2.2.2.2.2.2.2.2.1) 14 o.2.2.2.2.2.2.2.2.2.2.2.2.2.2.2.2.1) 15 o.2.2.2.2.2.2.2.2.2.2.2.2.2.2.2.2.2.1) 16 o.2.2.2.2.2.2.2.2.2.2.2.2.2.2.2.2.2.2) S hs) := hD
    refine lv_goto (tgt := 21) hx hb dL_relocationsFor_10 (by decide) ?_
    refine lv_iconst (v := (0 : Int32)) hx hb dL_relocationsFor_21 (by decide) ?_
    rw [← Option.some.inj h]
    exact az_iretT hx hb hr hlocks hK hP hD hS dL_relocationsFor_22 (Nat.le_of_ble_eq_true rfl) (Nat.le_of_ble_eq_true rfl)

def FL_amplification (V T : az_St) (S : Nat → az_St) (hs : Nat → Int32) (f : Nat → Int64) (x1 : Int32) : Option (Int32 × (Nat → Int64) × az_St × az_St × (Nat → az_St) × (Nat → Int32)) := (FX6_amplification V x1).bind (fun o => if o.1 = 0 then some ((0 : Int32), vp_updL f 0 (o.2).toInt64, V, T, S, hs) else (if o.1 = 4 then some ((1 : Int32), f, V, T, S, hs) else none))
set_option maxHeartbeats 8000000 in
set_option maxRecDepth 100000 in
theorem kL_amplification (l : Launch) (hst : l.stackTraces = false) (g : az_G) (sa : Nat → Nat) (ax an au : Nat → Nat) (aw : Nat → Nat → Nat) (ob : Nat) (V T : az_St) (S : Nat → az_St) (hs : Nat → Int32) (f : Nat → Int64) (x1 : Int32) (u : Int32 × (Nat → Int64) × az_St × az_St × (Nat → az_St) × (Nat → Int32)) (h : FL_amplification V T S hs f x1 = some u) : az_TI l yL_amplification wsL_amplification ({ frames := 8, cells := 1, slots := 6, locals := 141 } : Room) [.ref (ax 0), .int x1, .ref ob] g sa (az_ou g ob f :: az_wF g ax an au aw V T S hs) 0 u.1 (az_ou g ob u.2.1 :: az_wF g ax an au aw u.2.2.1 u.2.2.2.1 u.2.2.2.2.1 u.2.2.2.2.2) 1 := by
  refine az_bodyTW (cc := cL_amplification) (maxL := 4) (ret := (some .int)) (mc := 1) (ms := 6) (Qc := fun A => az_QTI g (az_ou g ob u.2.1 :: az_wF g ax an au aw u.2.2.1 u.2.2.2.1 u.2.2.2.2.1 u.2.2.2.2.2) 0 u.1 A) (XC := fun A => az_XT g (az_ou g ob u.2.1 :: az_wF g ax an au aw u.2.2.1 u.2.2.2.1 u.2.2.2.2.1 u.2.2.2.2.2) 0 A) (by decide +kernel) rfl (Nat.le_of_ble_eq_true rfl) ?_
  intro p e s m args below meth c A hx hb hr hts hown hml hlocks htab hcx hA hK hP hD hS ls hl
  have hl : lv_has ls 4 [(0, .ref (ax 0)), (1, .int x1), (2, .ref (ob))] := hl
  unfold FL_amplification at h
  obtain ⟨o, hc9, h⟩ := az_bnd h
  refine lv_aload_n hx hb dL_amplification_0 rfl (lv_at hl 2 rfl) ?_
  refine lv_iconst (v := (0 : Int32)) hx hb dL_amplification_1 (by decide) ?_
  refine lv_aload_n hx hb dL_amplification_2 rfl (lv_at hl 0 rfl) ?_
  refine lv_iload_n hx hb dL_amplification_3 rfl (lv_at hl 1 rfl) ?_
  refine az_callPTi (wr := [az_ou g ob f]) (w2 := az_ou g ob f :: az_wF g ax an au aw V T S hs) (As := [.int x1]) (rest := [.int (0 : Int32), .ref (ob)]) ⟨hx, hb, hml, hown, hts⟩ hl.1 (kX6_amplification l hst g sa ax an au (az_cV g au T ++ az_cH g ax aw S hs) V x1 o hc9) (cwV 1 hts gL_amplification_X6_amplification rfl rfl rfl (by decide +kernel) ⟨(Nat.le_of_ble_eq_true rfl), (Nat.le_of_ble_eq_true rfl)⟩) rfl hK hcx hP hD hS hA (List.perm_append_singleton _ _).symm (List.perm_append_singleton _ _) 0 rfl rfl rfl (Nat.le_of_ble_eq_true rfl) dL_amplification_4 ⟨(Nat.le_of_ble_eq_true rfl), (Nat.le_of_ble_eq_true rfl)⟩ rfl (fun n0 ce q9 H locs hP hD hS hce hcv hcl => ?_) (fun n0 H locs hP hD hS => ?_)
  · replace h := az_neg n0 h
    by_cases c0 : o.1 = 4
    · replace h := az_pos c0 h
      rw [c0] at hcl
      refine vx_catch (E := "java/util/NoSuchElementException") (name := "java/util/NoSuchElementException") hown [] (⟨0, 9, 12, 27⟩ : ExceptionTableEntry) [] (htab.trans rfl) (fun z hz => absurd hz List.not_mem_nil) rfl (by decide) (hts _ (List.mem_of_getElem? (i := 1) rfl)) (va_Nw.use rfl (hcx.2.1 4)) hce hcv hcl ?_
      refine lv_astore_n (lv' := [(3, .ref (q9)), (0, .ref (ax 0)), (1, .int x1), (2, .ref (ob))]) hx hb dL_amplification_12 rfl hl (by decide) rfl (fun ls hl => ?_)
      refine lv_iconst (v := (1 : Int32)) hx hb dL_amplification_13 (by decide) ?_
      rw [← Option.some.inj h]
      exact az_iretT hx hb hr hlocks hK hP hD hS dL_amplification_14 (Nat.le_of_ble_eq_true rfl) (Nat.le_of_ble_eq_true rfl)
    · replace h := az_neg c0 h
      exact az_non h
  · replace h := az_pos n0 h
    refine lv_i2l (v := (o.2).toInt64) hx hb dL_amplification_7 rfl ?_
    refine va_last (D := g.1) (f := f) hx hb hK hP hD hS 0 2 rfl rfl (az_vin (by decide +kernel)) dL_amplification_8 (fun H locs hP hD hS => ?_)
    have hP : va_P g.1 az_cl (az_ou g ob (vp_updL f 0 (o.2).toInt64) :: az_wF g ax an au aw V T S hs) _ := hP
    have hD : va_D A (az_ou g ob (vp_updL f 0 (o.2).toInt64) :: az_wF g ax an au aw V T S hs) := hD
    refine lv_goto (tgt := 15) hx hb dL_amplification_9 (by decide) ?_
    refine lv_iconst (v := (0 : Int32)) hx hb dL_amplification_15 (by decide) ?_
    rw [← Option.some.inj h]
    exact az_iretT hx hb hr hlocks hK hP hD hS dL_amplification_16 (Nat.le_of_ble_eq_true rfl) (Nat.le_of_ble_eq_true rfl)

def FL_undo (V T : az_St) (S : Nat → az_St) (hs : Nat → Int32) (f : Nat → Int64)  : Option (Int32 × (Nat → Int64) × az_St × az_St × (Nat → az_St) × (Nat → Int32)) := (FX6_undo V T S hs ).bind (fun o => if o.1 = 0 then some ((0 : Int32), vp_updL f 0 (o.2.1).toInt64, o.2.2.1, T, S, o.2.2.2) else (if o.1 = 3 then some ((1 : Int32), f, o.2.2.1, T, S, o.2.2.2) else none))
set_option maxHeartbeats 8000000 in
set_option maxRecDepth 100000 in
theorem kL_undo (l : Launch) (hst : l.stackTraces = false) (g : az_G) (sa : Nat → Nat) (ax an au : Nat → Nat) (aw : Nat → Nat → Nat) (ob : Nat) (V T : az_St) (S : Nat → az_St) (hs : Nat → Int32) (f : Nat → Int64)  (u : Int32 × (Nat → Int64) × az_St × az_St × (Nat → az_St) × (Nat → Int32)) (h : FL_undo V T S hs f  = some u) : az_TI l yL_undo wsL_undo ({ frames := 8, cells := 1, slots := 6, locals := 184 } : Room) [.ref (ax 0), .ref ob] g sa (az_ou g ob f :: az_wF g ax an au aw V T S hs) 0 u.1 (az_ou g ob u.2.1 :: az_wF g ax an au aw u.2.2.1 u.2.2.2.1 u.2.2.2.2.1 u.2.2.2.2.2) 1 := by
  refine az_bodyTW (cc := cL_undo) (maxL := 3) (ret := (some .int)) (mc := 1) (ms := 6) (Qc := fun A => az_QTI g (az_ou g ob u.2.1 :: az_wF g ax an au aw u.2.2.1 u.2.2.2.1 u.2.2.2.2.1 u.2.2.2.2.2) 0 u.1 A) (XC := fun A => az_XT g (az_ou g ob u.2.1 :: az_wF g ax an au aw u.2.2.1 u.2.2.2.1 u.2.2.2.2.1 u.2.2.2.2.2) 0 A) (by decide +kernel) rfl (Nat.le_of_ble_eq_true rfl) ?_
  intro p e s m args below meth c A hx hb hr hts hown hml hlocks htab hcx hA hK hP hD hS ls hl
  have hl : lv_has ls 3 [(0, .ref (ax 0)), (1, .ref (ob))] := hl
  unfold FL_undo at h
  obtain ⟨o, hc9, h⟩ := az_bnd h
  refine lv_aload_n hx hb dL_undo_0 rfl (lv_at hl 1 rfl) ?_
  refine lv_iconst (v := (0 : Int32)) hx hb dL_undo_1 (by decide) ?_
  refine lv_aload_n hx hb dL_undo_2 rfl (lv_at hl 0 rfl) ?_
  refine az_callPTi (wr := [az_ou g ob f]) (w2 := az_ou g ob f :: az_wF g ax an au aw o.2.2.1 T S o.2.2.2) (As := []) (rest := [.int (0 : Int32), .ref (ob)]) ⟨hx, hb, hml, hown, hts⟩ hl.1 (kX6_undo l hst g sa ax an au aw V T S hs  o hc9) (cwV 0 hts gL_undo_X6_undo rfl rfl rfl (by decide +kernel) ⟨(Nat.le_of_ble_eq_true rfl), (Nat.le_of_ble_eq_true rfl)⟩) rfl hK hcx hP hD hS hA (List.perm_append_singleton _ _).symm (List.perm_append_singleton _ _) 0 rfl rfl rfl (Nat.le_of_ble_eq_true rfl) dL_undo_3 ⟨(Nat.le_of_ble_eq_true rfl), (Nat.le_of_ble_eq_true rfl)⟩ rfl (fun n0 ce q9 H locs hP hD hS hce hcv hcl => ?_) (fun n0 H locs hP hD hS => ?_)
  · replace h := az_neg n0 h
    by_cases c0 : o.1 = 3
    · replace h := az_pos c0 h
      rw [c0] at hcl
      refine vx_catch (E := "java/lang/IllegalStateException") (name := "java/lang/IllegalStateException") hown [] (⟨0, 8, 11, 21⟩ : ExceptionTableEntry) [] (htab.trans rfl) (fun z hz => absurd hz List.not_mem_nil) rfl (by decide) (hts _ (List.mem_of_getElem? (i := 1) rfl)) (va_Nw.use rfl (hcx.2.1 3)) hce hcv hcl ?_
      refine lv_astore_n (lv' := [(2, .ref (q9)), (0, .ref (ax 0)), (1, .ref (ob))]) hx hb dL_undo_11 rfl hl (by decide) rfl (fun ls hl => ?_)
      refine lv_iconst (v := (1 : Int32)) hx hb dL_undo_12 (by decide) ?_
      rw [← Option.some.inj h]
      exact az_iretT hx hb hr hlocks hK hP hD hS dL_undo_13 (Nat.le_of_ble_eq_true rfl) (Nat.le_of_ble_eq_true rfl)
    · replace h := az_neg c0 h
      exact az_non h
  · replace h := az_pos n0 h
    refine lv_i2l (v := (o.2.1).toInt64) hx hb dL_undo_6 rfl ?_
    refine va_last (D := g.1) (f := f) hx hb hK hP hD hS 0 2 rfl rfl (az_vin (by decide +kernel)) dL_undo_7 (fun H locs hP hD hS => ?_)
    have hP : va_P g.1 az_cl (az_ou g ob (vp_updL f 0 (o.2.1).toInt64) :: az_wF g ax an au aw o.2.2.1 T S o.2.2.2) _ := hP
    have hD : va_D A (az_ou g ob (vp_updL f 0 (o.2.1).toInt64) :: az_wF g ax an au aw o.2.2.1 T S o.2.2.2) := hD
    refine lv_goto (tgt := 14) hx hb dL_undo_8 (by decide) ?_
    refine lv_iconst (v := (0 : Int32)) hx hb dL_undo_14 (by decide) ?_
    rw [← Option.some.inj h]
    exact az_iretT hx hb hr hlocks hK hP hD hS dL_undo_15 (Nat.le_of_ble_eq_true rfl) (Nat.le_of_ble_eq_true rfl)
