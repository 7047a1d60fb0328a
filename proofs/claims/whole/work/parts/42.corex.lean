/-! THE CORE of methods that may throw: the answer is F's, or the exception is F's, by its number -/
def az_exc (k : Nat) : String := match k with
  | 1 => "java/lang/IndexOutOfBoundsException"
  | 2 => "java/lang/IllegalArgumentException"
  | 3 => "java/lang/IllegalStateException"
  | _ => "java/util/NoSuchElementException"
def az_si (k : Nat) : Nat := match k with
  | 0 => 172
  | 1 => 214
  | 2 => 232
  | _ => 253
def az_sx (k : Nat) : String := match k with
  | 0 => "no such number of a reader"
  | 1 => "no such number of the volume"
  | 2 => "no such number of a segment"
  | _ => "no such number of a block"
def az_dl : List Cond := [.declares (Bundle.init0 "java/lang/RuntimeException"), .declares (Bundle.init0 "java/lang/Exception"), .declares (Bundle.init0 Bundle.tN), .declares (Bundle.initS "java/lang/RuntimeException"), .declares (Bundle.initS "java/lang/Exception"), .declares (Bundle.initS Bundle.tN)]
theorem az_warmD {y : MethodName} {s U : State} (hW : s.WarmedH U.vm) (hZ : va_Nw (.declares y) s) : va_Nw (.declares y) U := va_tabs rfl (rfl : (s.setVm U.vm).vm = U.vm) (by rw [Cond.declares_setVm hW.alike]; exact hZ)
/-- what a throw needs of the start: two statics, the classes, the texts -/
def az_cx (sa : Nat → Nat) (A : Nat → Prop) (U : State) (H : Heap) : Prop :=
  (vx_Zq Bundle.tN "UNASSIGNED_STACK" Bundle.steD A U H ∧ vx_Zq Bundle.tN "SUPPRESSED_SENTINEL" Bundle.listD A U H) ∧ (∀ k : Nat, va_Nw (.castable (az_exc k) (az_exc k)) U) ∧ (∀ i j : Nat, az_exc i ≠ az_exc j → va_Nc (az_exc i) (az_exc j) U) ∧ (∀ k : Nat, vk_R RX6 (az_si k) (az_sx k) (sa k) U) ∧ ∀ w ∈ az_dl, va_Nw w U
theorem az_cx.moved {sa : Nat → Nat} {A : Nat → Prop} {u U : State} {H : Heap} (hW : u.WarmedH U.vm) (h : az_cx sa A u H) : az_cx sa A U H :=
  ⟨⟨h.1.1.moved hW.alike, h.1.2.moved hW.alike⟩, fun k => va_Nw.warmC hW (h.2.1 k), fun i j hij => va_Nc.moved hW.alike (h.2.2.1 i j hij), fun k => vk_R.warm hW (h.2.2.2.1 k), fun w hw => by
    have h2 := h.2.2.2.2 w hw
    simp only [az_dl, List.mem_cons, List.not_mem_nil, or_false] at hw
    rcases hw with rfl | rfl | rfl | rfl | rfl | rfl <;> exact az_warmD hW h2⟩
theorem az_cx.kept {sa : Nat → Nat} {A : Nat → Prop} {U : State} {H H1 : Heap} (h : az_cx sa A U H) (hq : ∀ a : Nat, a < H.size → ¬ A a → H1[a]? = H[a]?) : az_cx sa A U H1 :=
  ⟨⟨h.1.1.kept hq, h.1.2.kept hq⟩, h.2⟩
theorem az_cx.narrow {sa : Nat → Nat} {A B : Nat → Prop} {U : State} {H : Heap} (h : az_cx sa A U H) (hAB : ∀ q, B q → A q) : az_cx sa B U H :=
  ⟨⟨h.1.1.narrow hAB, h.1.2.narrow hAB⟩, h.2⟩
theorem az_dlU {sa : Nat → Nat} {A : Nat → Prop} {U : State} {H : Heap} {args : Array Value} (h : az_cx sa A U H) : ∀ w ∈ az_dl, w.before args U = true := fun w hw => by
  have h2 := h.2.2.2.2 w hw
  simp only [az_dl, List.mem_cons, List.not_mem_nil, or_false] at hw
  rcases hw with rfl | rfl | rfl | rfl | rfl | rfl <;> exact va_Nw.use rfl h2
def az_preT (g : az_G) (sa : Nat → Nat) (ws : va_W) (sz : Nat) (U : State) : Prop := az_pre g ws sz U ∧ az_cx sa (va_A ws sz) U U.heap
def az_QTI (g : az_G) (ws : va_W) (k : Nat) (r : Int32) (A : Nat → Prop) : Array Value → State → Outcome → State → Prop := va_Qi (fun r2 (_ : Unit) => k = 0 ∧ r2 = r) (fun _ t => az_at g ws A t) A
def az_QTV (g : az_G) (ws : va_W) (k : Nat) (A : Nat → Prop) : Array Value → State → Outcome → State → Prop := va_Qv (fun (_ : Unit) => k = 0) (fun _ t => az_at g ws A t) A
def az_XT (g : az_G) (ws : va_W) (k : Nat) (A : Nat → Prop) : String → State → State → Prop := vx_X (fun (_ : Unit) => k ≠ 0) (fun E _ t => E = az_exc k ∧ az_at g ws A t) A
def az_TI (l : Launch) (y : MethodName) (wl : List Cond) (rm : Room) (av : List Value) (g : az_G) (sa : Nat → Nat) (ws : va_W) (k : Nat) (r : Int32) (ws' : va_W) (mc : Nat) : Prop :=
  ∀ sz : Nat, vx_Met l y wl rm (va_Pc av (az_preT g sa ws sz)) (az_QTI g ws' k r (va_A ws sz)) (az_XT g ws' k (va_A ws sz)) mc (6 * mc) (va_A ws sz)
def az_TV (l : Launch) (y : MethodName) (wl : List Cond) (rm : Room) (av : List Value) (g : az_G) (sa : Nat → Nat) (ws : va_W) (k : Nat) (ws' : va_W) (mc : Nat) : Prop :=
  ∀ sz : Nat, vx_Met l y wl rm (va_Pc av (az_preT g sa ws sz)) (az_QTV g ws' k (va_A ws sz)) (az_XT g ws' k (va_A ws sz)) mc (6 * mc) (va_A ws sz)
theorem az_blindT (av : List Value) (g : az_G) (sa : Nat → Nat) (wc : va_W) (sz : Nat) : FrameBlind (va_Pc av (az_preT g sa wc sz)) := by
  intro a U f mk q
  obtain ⟨q0, ⟨q1, qP, qK, qD⟩, qc⟩ := q
  exact ⟨q0, ⟨q1, qP, va_K.moved (u := U) (U := U.calling f mk a) (Vm.Alike.refl U.vm) qK, qD⟩, az_cx.moved (u := U) (U := U.calling f mk a) (State.WarmedH.refl U) qc⟩
section AX
variable {p : Program} {l : Launch} {e : Env} {R : Room} {s : State} {m : MethodId} {args : Array Value} {below : List Frame} {meth : Method} {c : Code} {H : Heap} {locs : List Loc} {cells slots : Nat} {Q : State → Prop}
theorem az_bodyT {y : MethodName} {wl wl' : List Cond} {rm : Room} {av : List Value} {g : az_G} {sa : Nat → Nat} {ws : va_W} {cc : ByteArray} {maxL mc ms : Nat} {ret : Option FieldType} {Qc : (Nat → Prop) → Array Value → State → Outcome → State → Prop} {XC : (Nat → Prop) → String → State → State → Prop}
    (hy : plainName y.cls = true) (hw : wl = Cond.code y cc maxL ret :: wl') (hav : (lg_sl av).length ≤ maxL)
    (body : ∀ (p : Program) (e : Env) (s : State) (m : MethodId) (args : Array Value) (below : List Frame) (meth : Method) (c : Code) (A : Nat → Prop), p.tables.exec = Jvm.exec → c.code = cc → meth.sig.returnType = ret → (∀ w ∈ wl, w.before args s = true) → s.vm.findClass y.cls = some m.cls → c.maxLocals = maxL → meth.locks = false →
      (∀ x ∈ c.exceptionTable.toList, False) → az_cx sa A s s.heap →
      (∀ q : Nat, s.heap.size ≤ q → A q) → va_K g.1 az_cl (az_tys g) s → va_P g.1 az_cl ws s.heap → va_D A ws → va_S A s.heap s.heap [] → ∀ ls : Array Slot, lv_has ls maxL (lv_args 0 av) → W p l e rm s m args below meth c s.heap [] 0 0 (vx_MQ below (Qc A) (XC A) args s mc ms A) (F0 m 0 ls [])) :
    ∀ sz : Nat, vx_Met l y wl rm (va_Pc av (az_preT g sa ws sz)) (Qc (va_A ws sz)) (XC (va_A ws sz)) mc ms (va_A ws sz) := by
  intro sz
  refine vx_ofW (cc := cc) (maxL := maxL) (ret := ret) hy hw ?_
  intro p e s m args below meth c s₁ B hml hex hv
  obtain ⟨rfl, ⟨hsz, hP, hK, hD0⟩, hcx⟩ := hv
  subst hsz
  have h := body p e s m av.toArray below meth c (va_A ws s.heap.size) B.exec B.bytes B.returns (atoms_spec (ws := wl) B.pre) (findClass_of_methodNamed B.named) hml B.notSynchronized hex hcx (fun q h => Or.inr h) hK hP hD0.self va_S.rf
    ((lg_sl av ++ List.replicate (maxL - (lg_sl av).length) Slot.unset).toArray) (lv_entry av hav)
  rw [lg_entry_eq]
  exact h
variable {g : az_G} {sa : Nat → Nat} {cc : ByteArray} {pc : Nat} {ls : Array Slot} {ws ws' : va_W} {A : Nat → Prop} {mc ms : Nat}
theorem az_iretT {r : Int32} {XC : String → State → State → Prop} (hx : p.tables.exec = Jvm.exec) (hb : c.code = cc) (hr : meth.sig.returnType = some .int) (hlocks : meth.locks = false) (hK : va_K g.1 az_cl (az_tys g) s) (hP : va_P g.1 az_cl ws' H) (hD : va_D A ws') (hS : va_S A s.heap H locs) (hdg : decode cc pc = .ok (.ireturn, 1)) (hc : cells ≤ mc) (hs : slots ≤ ms) :
    W p l e R s m args below meth c H locs cells slots (vx_MQ below (az_QTI g ws' 0 r A) XC args s mc ms A) (F0 m pc ls [.int r]) :=
  vx_ret (W.widen hc hs (W.iret (v := r) hx hb hr (fun t ht hW => ⟨⟨r, (), rfl, ⟨rfl, rfl⟩, by rw [ht]; exact hP, va_K.moved hW.alike hK, hD⟩, hS.F ht⟩) hS.2.2 hdg hlocks))
theorem az_vretT {XC : String → State → State → Prop} (hx : p.tables.exec = Jvm.exec) (hb : c.code = cc) (hr : meth.sig.returnType = none) (hlocks : meth.locks = false) (hK : va_K g.1 az_cl (az_tys g) s) (hP : va_P g.1 az_cl ws' H) (hD : va_D A ws') (hS : va_S A s.heap H locs) (hdg : decode cc pc = .ok (.return_, 1)) (hc : cells ≤ mc) (hs : slots ≤ ms) :
    W p l e R s m args below meth c H locs cells slots (vx_MQ below (az_QTV g ws' 0 A) XC args s mc ms A) (F0 m pc ls []) :=
  vx_ret (W.widen hc hs (W.vret hx hb hr (fun t ht hW => ⟨⟨(), rfl, rfl, by rw [ht]; exact hP, va_K.moved hW.alike hK, hD⟩, hS.F ht⟩) hS.2.2 hdg hlocks))
/-- thrown by a callee, not caught here -/
theorem az_outT {k : Nat} {ce : Cell} {q : Addr} {rest : List Value} {Qc : Array Value → State → Outcome → State → Prop} (hk : k ≠ 0) (hex : ∀ x ∈ c.exceptionTable.toList, False) (hlocks : meth.locks = false) (hcell : H[q]? = some ce) (hv : ce.vm = .none) (hcl : s.vm.findClass (az_exc k) = some ce.cls)
    (hK : va_K g.1 az_cl (az_tys g) s) (hP : va_P g.1 az_cl ws' H) (hD : va_D A ws') (hS : va_S A s.heap H locs) (hc : cells ≤ mc) (hs : slots ≤ ms) :
    vx_W p l e R s m args below meth c H locs cells slots (vx_MQ below Qc (az_XT g ws' k A) args s mc ms A) (F0 m pc ls rest) q :=
  vx_out (fun x hx => (hex x hx).elim) hlocks hcell hv hcl (fun t ht hW => ⟨(), hk, ⟨rfl, by rw [ht]; exact hP, va_K.moved hW hK, hD⟩, hS.F ht⟩) hS.2.2 hc hs
theorem az_P_kept {D : va_G} {cl : List vw_C} {H1 : Heap} (hP : va_P D cl ws H) (hk : ∀ q : Nat, q < H.size → H1[q]? = H[q]?) : va_P D cl ws H1 := fun k q hq => (hP k q hq).kept (hk q.1 (hP k q hq).lt)
/-- throw new E() -/
theorem az_throw0 {k ik ic : Nat} {cls own : String} {wl : List Cond} {rest : List Value} {Qc : Array Value → State → Outcome → State → Prop} (hk0 : k ≠ 0) (hcls : az_exc k = cls) (hfit : Bundle.fit cls = true) (hx : p.tables.exec = Jvm.exec) (hb : c.code = cc) (hl : l.stackTraces = false) (hown : s.vm.findClass own = some m.cls)
    (hkl : (Cond.classLink own ik cls).before args s = true) (hini : (Cond.initialized cls).before args s = true) (hts : ∀ w ∈ wl, w.before args s = true) (hin : ∀ w ∈ (vx_at0 own ic cls ["java/lang/RuntimeException", "java/lang/Exception"]).filter goodWord, w ∈ wl) (hno : ∀ w ∈ (vx_at0 own ic cls ["java/lang/RuntimeException", "java/lang/Exception"]).filter (fun w => !goodWord w), w ∈ Cond.castable cls cls :: az_dl)
    (hgood : ∀ w ∈ Cond.classLink own ik cls :: Cond.initialized cls :: vx_at0 own ic cls ["java/lang/RuntimeException", "java/lang/Exception"], vx_ot w = true)
    (hcx : az_cx sa A s s.heap) (hK : va_K g.1 az_cl (az_tys g) s) (hP : va_P g.1 az_cl ws' H) (hD : va_D A ws') (hS : va_S A s.heap H locs) (hsize : ls.size = c.maxLocals)
    (d0 : decode cc pc = .ok (.new ik, 3)) (d3 : decode cc (pc + 3) = .ok (.dup, 1)) (d4 : decode cc (pc + 4) = .ok (.invokespecial ic, 3)) (d7 : decode cc (pc + 7) = .ok (.athrow, 1))
    (hex : ∀ x ∈ c.exceptionTable.toList, False) (hRf : 5 < R.frames) (hRl : (rest.map fun v => v.category).sum + 81 ≤ R.locals) (hRc : cells + 1 ≤ R.cells) (hRs : slots + 6 ≤ R.slots) (hlocks : meth.locks = false) (hc : cells + 1 ≤ mc) (hs : slots + 6 ≤ ms) :
    W p l e R s m args below meth c H locs cells slots (vx_MQ below Qc (az_XT g ws' k A) args s mc ms A) (F0 m pc ls rest) := by
  subst hcls
  refine vx_throw0 (names := ["java/lang/RuntimeException", "java/lang/Exception"]) (A := A) hx hb hl hown hfit (by decide +kernel) hkl hini (vx_hat (fun w hw => hts w (hin w hw)) hno (vx_c (va_Nw.use (A := args) rfl (hcx.2.1 k)) (az_dlU hcx))) hgood hcx.1.1 hcx.1.2 hS hsize d0 d3 d4 d7 (fun x hx => (hex x hx).elim) hRf hRl hRc hRs hlocks (fun t hW hz hk => ?_) hS.2.2 hc hs
  refine ⟨(), hk0, ⟨rfl, az_P_kept hP hk, va_K.moved hW hK, hD⟩, ⟨Nat.le_trans hS.1 hz, fun q h1 h2 => ?_⟩⟩
  rw [hk q (Nat.lt_of_lt_of_le h1 hS.1)]
  exact hS.2.1 q h1 h2
/-- throw new E("text") -/
theorem az_throwS {k ik ic is : Nat} {cls own text : String} {z : Nat} {wl : List Cond} {rest : List Value} {Qc : Array Value → State → Outcome → State → Prop} (hk0 : k ≠ 0) (hcls : az_exc k = cls) (hfit : Bundle.fit cls = true) (hx : p.tables.exec = Jvm.exec) (hb : c.code = cc) (hl : l.stackTraces = false) (hown : s.vm.findClass own = some m.cls) (hstr : vk_R own is text z s)
    (hkl : (Cond.classLink own ik cls).before args s = true) (hini : (Cond.initialized cls).before args s = true) (hts : ∀ w ∈ wl, w.before args s = true) (hin : ∀ w ∈ (vx_atS own ic cls ["java/lang/RuntimeException", "java/lang/Exception"]).filter goodWord, w ∈ wl) (hno : ∀ w ∈ (vx_atS own ic cls ["java/lang/RuntimeException", "java/lang/Exception"]).filter (fun w => !goodWord w), w ∈ Cond.castable cls cls :: az_dl)
    (hgood : ∀ w ∈ Cond.classLink own ik cls :: Cond.initialized cls :: vx_atS own ic cls ["java/lang/RuntimeException", "java/lang/Exception"], vx_ot w = true)
    (hcx : az_cx sa A s s.heap) (hK : va_K g.1 az_cl (az_tys g) s) (hP : va_P g.1 az_cl ws' H) (hD : va_D A ws') (hS : va_S A s.heap H locs) (hsize : ls.size = c.maxLocals)
    (d0 : decode cc pc = .ok (.new ik, 3)) (d3 : decode cc (pc + 3) = .ok (.dup, 1)) (d4 : decode cc (pc + 4) = .ok (.ldc is, 2)) (d6 : decode cc (pc + 6) = .ok (.invokespecial ic, 3)) (d9 : decode cc (pc + 9) = .ok (.athrow, 1))
    (hex : ∀ x ∈ c.exceptionTable.toList, False) (hRf : 5 < R.frames) (hRl : (rest.map fun v => v.category).sum + 82 ≤ R.locals) (hRc : cells + 1 ≤ R.cells) (hRs : slots + 6 ≤ R.slots) (hlocks : meth.locks = false) (hc : cells + 1 ≤ mc) (hs : slots + 6 ≤ ms) :
    W p l e R s m args below meth c H locs cells slots (vx_MQ below Qc (az_XT g ws' k A) args s mc ms A) (F0 m pc ls rest) := by
  subst hcls
  refine vx_throwS (names := ["java/lang/RuntimeException", "java/lang/Exception"]) (A := A) hx hb hl hown hfit (by decide +kernel) hkl hini hstr (vx_hat (fun w hw => hts w (hin w hw)) hno (vx_c (va_Nw.use (A := args) rfl (hcx.2.1 k)) (az_dlU hcx))) hgood hcx.1.1 hcx.1.2 hS hsize d0 d3 d4 d6 d9 (fun x hx => (hex x hx).elim) hRf hRl hRc hRs hlocks (fun t hW hz hk => ?_) hS.2.2 hc hs
  refine ⟨(), hk0, ⟨rfl, az_P_kept hP hk, va_K.moved hW hK, hD⟩, ⟨Nat.le_trans hS.1 hz, fun q h1 h2 => ?_⟩⟩
  rw [hk q (Nat.lt_of_lt_of_le h1 hS.1)]
  exact hS.2.1 q h1 h2
variable {H0 : Heap} {y : MethodName} {bytes : ByteArray} {maxL nL n index : Nat} {ret : Option FieldType} {wl : List Cond} {rm : Room} {Ts : List Cond} {own C : String} {b : Addr} {As rest : List Value} {wc w1 w2 wr : va_W}
/-- the caller's world with the callee's cells put back, by permutations -/
theorem az_sndP {D : va_G} {cl : List vw_C} (hp : ws.Perm w2) (hP : va_P D cl ws H) : va_P D cl w2 H := by
  intro k q hq
  obtain ⟨i, hi⟩ := List.getElem?_of_mem (hp.mem_iff.mpr (List.mem_of_getElem? hq))
  exact hP i q hi
theorem az_D_iff {A : Nat → Prop} {ws : va_W} : va_D A ws ↔ (ws.map (fun q => q.1)).Nodup ∧ ∀ q ∈ ws, A q.1 := by
  constructor
  · intro h
    refine ⟨?_, fun q hq => ?_⟩
    · refine List.pairwise_iff_getElem.mpr ?_
      intro i j hi hj hij he
      rw [List.length_map] at hi hj
      rw [List.getElem_map, List.getElem_map] at he
      have := h.1 i j _ _ (List.getElem?_eq_getElem hi) (List.getElem?_eq_getElem hj) he
      omega
    · obtain ⟨i, hi⟩ := List.getElem?_of_mem hq
      exact h.2 i q hi
  · rintro ⟨h1, h2⟩
    refine ⟨fun i j p q hi hj hpq => ?_, fun k q hk => h2 q (List.mem_of_getElem? hk)⟩
    have h1 := List.pairwise_iff_getElem.mp h1
    obtain ⟨hli, ei⟩ := List.getElem?_eq_some_iff.mp hi
    obtain ⟨hlj, ej⟩ := List.getElem?_eq_some_iff.mp hj
    rcases Nat.lt_trichotomy i j with h | h | h
    · exact absurd (by rw [List.getElem_map, List.getElem_map, ei, ej]; exact hpq) (h1 i j (by rw [List.length_map]; exact hli) (by rw [List.length_map]; exact hlj) h)
    · exact h
    · exact absurd (by rw [List.getElem_map, List.getElem_map, ei, ej]; exact hpq.symm) (h1 j i (by rw [List.length_map]; exact hlj) (by rw [List.length_map]; exact hli) h)
theorem az_sndD (hp : ws.Perm w2) (hD : va_D A ws) : va_D A w2 := by
  rw [az_D_iff] at hD ⊢
  exact ⟨(hp.map _).nodup_iff.mp hD.1, fun q hq => hD.2 q (hp.mem_iff.mpr hq)⟩
theorem az_P_app {D : va_G} {cl : List vw_C} (hP : va_P D cl (wc ++ wr) H) : va_P D cl wc H ∧ va_P D cl wr H := by
  constructor
  · intro k q hq
    exact hP k q (by rw [List.getElem?_append_left (List.getElem?_eq_some_iff.mp hq).1]; exact hq)
  · intro k q hq
    exact hP (wc.length + k) q (by rw [List.getElem?_append_right (by omega)]; simpa using hq)
theorem az_joinP {D : va_G} {cl : List vw_C} {H1 : Heap} (hP : va_P D cl (wc ++ wr) H) (hD : va_D A (wc ++ wr)) (hF : ∀ q, va_A wc H.size q → A q)
    (hk : ∀ q : Nat, q < H.size → ¬ va_A wc H.size q → H1[q]? = H[q]?) (hP1 : va_P D cl w1 H1) (hD1 : va_D (va_A wc H.size) w1) : va_P D cl (w1 ++ wr) H1 ∧ va_D A (w1 ++ wr) := by
  obtain ⟨hPc, hPr⟩ := az_P_app hP
  have hDi := az_D_iff.mp hD
  have hnr : ∀ q ∈ wr, ¬ va_A wc H.size q.1 := by
    rintro q hq (⟨k, e, h⟩ | h)
    · have := hDi.1
      rw [List.map_append, List.nodup_append] at this
      exact this.2.2 q.1 (List.mem_map.mpr ⟨(q.1, e), List.mem_of_getElem? h, rfl⟩) q.1 (List.mem_map.mpr ⟨q, hq, rfl⟩) rfl
    · obtain ⟨i, hi⟩ := List.getElem?_of_mem hq
      exact Nat.lt_irrefl _ (Nat.lt_of_lt_of_le (hPr i q hi).lt h)
  refine ⟨va_P.app hP1 (fun k q hq => (hPr k q hq).kept (hk q.1 (hPr k q hq).lt (hnr q (List.mem_of_getElem? hq)))), ?_⟩
  rw [az_D_iff] at hD1 ⊢
  refine ⟨?_, fun q hq => ?_⟩
  · rw [List.map_append, List.nodup_append]
    have h2 := hDi.1
    rw [List.map_append, List.nodup_append] at h2
    refine ⟨hD1.1, h2.2.1, fun a ha b hb hab => ?_⟩
    obtain ⟨q1, m1, rfl⟩ := List.mem_map.mp ha
    obtain ⟨q2, m2, rfl⟩ := List.mem_map.mp hb
    exact hnr q2 m2 (hab ▸ hD1.2 q1 m1)
  · rcases List.mem_append.mp hq with h | h
    · exact hF _ (hD1.2 q h)
    · exact hDi.2 q (List.mem_append_right _ h)
theorem az_freeP (hD : va_D A (wc ++ wr)) (hS : va_S A H0 H locs) (hA : ∀ q : Nat, H0.size ≤ q → A q) : ∀ q, va_A wc H.size q → A q := by
  rintro q (⟨k, e, h⟩ | h)
  · exact (az_D_iff.mp hD).2 (q, e) (List.mem_append_left _ (List.mem_of_getElem? h))
  · exact hA q (Nat.le_trans hS.1 h)
/-- a call, the callee's world cut out by a permutation -/
theorem az_callPi (S : CallFix p m c cc nL s args Ts own) (hl : ls.size = nL) {r : Int32} (hM : az_I l y wl rm (.ref b :: As) g wc r w1) (cw : CallW R s args own C index y bytes maxL ret wl rm 0 0 n) (hn : As.length = n)
    (hK : va_K g.1 az_cl (az_tys g) s) (hP : va_P g.1 az_cl ws H) (hD : va_D A ws) (hS : va_S A H0 H locs) (hA : ∀ q : Nat, H0.size ≤ q → A q) (hp1 : ws.Perm (wc ++ wr)) (hp2 : (w1 ++ wr).Perm w2)
    (q0 : Nat) {ci : Nat} {fs : List Value} {q : vw_C} (hc : az_cl[ci]? = some q) (hqC : q.1 = C) (he : wc[q0]? = some (b, .inr (ci, fs)))
    (hroom : (rest.map fun v => v.category).sum ≤ 8) (hdg : decode cc pc = .ok (.invokevirtual index, 3)) (hf : cells ≤ R.cells ∧ slots ≤ R.slots)
    {st0 : List Value} (hst : st0 = As.reverse ++ .ref b :: rest)
    (kk : ∀ (H1 : Heap) (locs1 : List Loc), va_P g.1 az_cl w2 H1 → va_D A w2 → va_S A H0 H1 locs1 → W p l e R s m args below meth c H1 locs1 cells slots Q (F0 m (pc + 3) ls (.int r :: rest))) :
    W p l e R s m args below meth c H locs cells slots Q (F0 m pc ls st0) := by
  replace hP := az_sndP hp1 hP
  replace hD := az_sndD hp1 hD
  have hPc := (az_P_app hP).1
  have hFc := az_freeP hD hS hA
  have hDc : va_D (fun _ => True) wc := by
    have := az_D_iff.mp hD
    rw [List.map_append, List.nodup_append] at this
    exact az_D_iff.mpr ⟨this.1.1, fun _ _ => trivial⟩
  refine va_calli (va_runV (As := As) (rest := rest) S (hM H.size) cw ⟨az_blind _ _ _ _, ?_, fun U hU hW => ⟨rfl, by rw [hU], by rw [hU]; exact hPc, va_K.moved hW.alike hK, hDc⟩⟩ rfl hn hl hst (lv_room hroom) hdg hf) hS (fun q _ h => hFc q h) hFc (fun r2 u t H1 locs1 ht hvm hw hB hz1 hk1 hS => ?_)
  · have := va_recv (q := q) hK hPc hc he
    rw [hqC] at this
    exact this
  · obtain ⟨hP1, hK1, hD1⟩ := hB
    rw [ht] at hP1
    obtain ⟨hP2, hD2⟩ := az_joinP hP hD hFc hk1 hP1 hD1
    have hw : r2 = r := hw
    subst hw
    exact kk H1 locs1 (az_sndP hp2 hP2) (az_sndD hp2 hD2) hS
theorem az_callPv (S : CallFix p m c cc nL s args Ts own) (hl : ls.size = nL) (hM : az_V l y wl rm (.ref b :: As) g wc w1) (cw : CallW R s args own C index y bytes maxL ret wl rm 0 0 n) (hn : As.length = n)
    (hK : va_K g.1 az_cl (az_tys g) s) (hP : va_P g.1 az_cl ws H) (hD : va_D A ws) (hS : va_S A H0 H locs) (hA : ∀ q : Nat, H0.size ≤ q → A q) (hp1 : ws.Perm (wc ++ wr)) (hp2 : (w1 ++ wr).Perm w2)
    (q0 : Nat) {ci : Nat} {fs : List Value} {q : vw_C} (hc : az_cl[ci]? = some q) (hqC : q.1 = C) (he : wc[q0]? = some (b, .inr (ci, fs)))
    (hroom : (rest.map fun v => v.category).sum ≤ 8) (hdg : decode cc pc = .ok (.invokevirtual index, 3)) (hf : cells ≤ R.cells ∧ slots ≤ R.slots)
    {st0 : List Value} (hst : st0 = As.reverse ++ .ref b :: rest)
    (kk : ∀ (H1 : Heap) (locs1 : List Loc), va_P g.1 az_cl w2 H1 → va_D A w2 → va_S A H0 H1 locs1 → W p l e R s m args below meth c H1 locs1 cells slots Q (F0 m (pc + 3) ls rest)) :
    W p l e R s m args below meth c H locs cells slots Q (F0 m pc ls st0) := by
  replace hP := az_sndP hp1 hP
  replace hD := az_sndD hp1 hD
  have hPc := (az_P_app hP).1
  have hFc := az_freeP hD hS hA
  have hDc : va_D (fun _ => True) wc := by
    have := az_D_iff.mp hD
    rw [List.map_append, List.nodup_append] at this
    exact az_D_iff.mpr ⟨this.1.1, fun _ _ => trivial⟩
  refine va_callv (va_runV (As := As) (rest := rest) S (hM H.size) cw ⟨az_blind _ _ _ _, ?_, fun U hU hW => ⟨rfl, by rw [hU], by rw [hU]; exact hPc, va_K.moved hW.alike hK, hDc⟩⟩ rfl hn hl hst (lv_room hroom) hdg hf) hS (fun q _ h => hFc q h) hFc (fun u t H1 locs1 ht hvm hw hB hz1 hk1 hS => ?_)
  · have := va_recv (q := q) hK hPc hc he
    rw [hqC] at this
    exact this
  · obtain ⟨hP1, hK1, hD1⟩ := hB
    rw [ht] at hP1
    obtain ⟨hP2, hD2⟩ := az_joinP hP hD hFc hk1 hP1 hD1
    exact kk H1 locs1 (az_sndP hp2 hP2) (az_sndD hp2 hD2) hS
/-- a call of a static method without a world, that may throw -/
theorem az_callST {k mcc : Nat} (S : CallFix p m c cc nL s args Ts own) (hl : ls.size = nL) (hM : az_TV l y wl rm As g sa [] k [] mcc) (cw : CallB R s args own index y bytes maxL ret wl rm mcc (6 * mcc) n ∧ (Cond.static y).before args s = true) (hn : As.length = n)
    (hK : va_K g.1 az_cl (az_tys g) s) (hcx : az_cx sa A s H0) (hP : va_P g.1 az_cl ws H) (hS : va_S A H0 H locs) (hA : ∀ q : Nat, H0.size ≤ q → A q)
    (hroom : (rest.map fun v => v.category).sum ≤ 8) (hdg : decode cc pc = .ok (.invokestatic index, 3)) (hf : cells + mcc ≤ R.cells ∧ slots + 6 * mcc ≤ R.slots)
    {st0 : List Value} (hst : st0 = As.reverse ++ rest)
    (kx : k ≠ 0 → ∀ (ce : Cell) (q9 : Addr) (H1 : Heap) (locs1 : List Loc), va_P g.1 az_cl ws H1 → va_S A H0 H1 locs1 → H1[q9]? = some ce → ce.vm = .none → s.vm.findClass (az_exc k) = some ce.cls → vx_W p l e R s m args below meth c H1 locs1 (cells + mcc) (slots + 6 * mcc) Q (F0 m pc ls rest) q9)
    (kk : k = 0 → ∀ (H1 : Heap) (locs1 : List Loc), va_P g.1 az_cl ws H1 → va_S A H0 H1 locs1 → W p l e R s m args below meth c H1 locs1 (cells + mcc) (slots + 6 * mcc) Q (F0 m (pc + 3) ls rest)) :
    W p l e R s m args below meth c H locs cells slots Q (F0 m pc ls st0) := by
  have hF : ∀ q, va_A [] H.size q → A q := by
    intro q h
    rcases h with ⟨k, e, h⟩ | h
    · simp at h
    · exact hA q (Nat.le_trans hS.1 h)
  have hcx1 : az_cx sa (va_A [] H.size) s H := (hcx.kept (fun a h1 h2 => hS.2.1 a h1 h2)).narrow hF
  have hkeep : ∀ {H1 : Heap}, (∀ q : Nat, q < H.size → ¬ va_A [] H.size q → H1[q]? = H[q]?) → va_P g.1 az_cl ws H1 := by
    intro H1 hk1
    refine fun k q hq => (hP k q hq).kept (hk1 q.1 (hP k q hq).lt ?_)
    rintro (⟨k2, e2, h2⟩ | h2)
    · simp at h2
    · exact Nat.lt_irrefl _ (Nat.lt_of_lt_of_le (hP k q hq).lt h2)
  refine vx_callv (vx_runS (As := As) (rest := rest) S (hM H.size) cw ⟨az_blindT _ _ _ _ _, fun U hU hW => ⟨rfl, ⟨by rw [hU], (fun k q h => by simp at h), va_K.moved hW.alike hK, ⟨fun i j p q h => by simp at h, fun k q h => by simp at h⟩⟩, by rw [hU]; exact az_cx.moved hW hcx1⟩⟩ rfl hn hl hst (lv_room hroom) hdg hf) hS (fun q _ h => hF q h) hF (fun q _ h => hF q h)
    (fun E ce q9 u t H1 locs1 ht hvm hne hB hz1 hk1 hS hce hcv hcl => ?_) (fun u t H1 locs1 ht hvm hw hB hz1 hk1 hS => ?_)
  · obtain ⟨rfl, -⟩ := hB
    exact kx hne ce q9 H1 locs1 (hkeep hk1) hS hce hcv hcl
  · exact kk hw H1 locs1 (hkeep hk1) hS
/-- a call of an object's method that may throw and changes nothing of the whole world -/
theorem az_callVT {k mcc : Nat} (S : CallFix p m c cc nL s args Ts own) (hl : ls.size = nL) (hM : az_TV l y wl rm (.ref b :: As) g sa ws k ws mcc) (cw : CallW R s args own C index y bytes maxL ret wl rm mcc (6 * mcc) n) (hn : As.length = n)
    (hK : va_K g.1 az_cl (az_tys g) s) (hcx : az_cx sa A s H0) (hP : va_P g.1 az_cl ws H) (hD : va_D A ws) (hS : va_S A H0 H locs) (hA : ∀ q : Nat, H0.size ≤ q → A q)
    (q0 : Nat) {ci : Nat} {fs : List Value} {q : vw_C} (hc : az_cl[ci]? = some q) (hqC : q.1 = C) (he : ws[q0]? = some (b, .inr (ci, fs)))
    (hroom : (rest.map fun v => v.category).sum ≤ 8) (hdg : decode cc pc = .ok (.invokevirtual index, 3)) (hf : cells + mcc ≤ R.cells ∧ slots + 6 * mcc ≤ R.slots)
    {st0 : List Value} (hst : st0 = As.reverse ++ .ref b :: rest)
    (kx : k ≠ 0 → ∀ (ce : Cell) (q9 : Addr) (H1 : Heap) (locs1 : List Loc), va_P g.1 az_cl ws H1 → va_S A H0 H1 locs1 → H1[q9]? = some ce → ce.vm = .none → s.vm.findClass (az_exc k) = some ce.cls → vx_W p l e R s m args below meth c H1 locs1 (cells + mcc) (slots + 6 * mcc) Q (F0 m pc ls rest) q9)
    (kk : k = 0 → ∀ (H1 : Heap) (locs1 : List Loc), va_P g.1 az_cl ws H1 → va_S A H0 H1 locs1 → W p l e R s m args below meth c H1 locs1 (cells + mcc) (slots + 6 * mcc) Q (F0 m (pc + 3) ls rest)) :
    W p l e R s m args below meth c H locs cells slots Q (F0 m pc ls st0) := by
  have hF : ∀ q, va_A ws H.size q → A q := by
    rintro q (⟨k, e, h⟩ | h)
    · exact hD.2 k _ h
    · exact hA q (Nat.le_trans hS.1 h)
  have hcx1 : az_cx sa (va_A ws H.size) s H := (hcx.kept (fun a h1 h2 => hS.2.1 a h1 h2)).narrow hF
  refine vx_callv (vx_runV (As := As) (rest := rest) S (hM H.size) cw ⟨az_blindT _ _ _ _ _, ?_, fun U hU hW => ⟨rfl, ⟨by rw [hU], by rw [hU]; exact hP, va_K.moved hW.alike hK, hD.weaken (fun _ _ _ _ => trivial)⟩, by rw [hU]; exact az_cx.moved hW hcx1⟩⟩ rfl hn hl hst (lv_room hroom) hdg hf) hS (fun q _ h => hF q h) hF (fun q _ h => hF q h)
    (fun E ce q9 u t H1 locs1 ht hvm hne hB hz1 hk1 hS hce hcv hcl => ?_) (fun u t H1 locs1 ht hvm hw hB hz1 hk1 hS => ?_)
  · have := va_recv (q := q) hK hP hc he
    rw [hqC] at this
    exact this
  · obtain ⟨rfl, hP1, -⟩ := hB
    rw [ht] at hP1
    exact kx hne ce q9 H1 locs1 hP1 hS hce hcv hcl
  · obtain ⟨hP1, -⟩ := hB
    rw [ht] at hP1
    exact kk hw H1 locs1 hP1 hS
end AX
theorem az_pm {α : Type} (a K b : List α) : (a ++ (K ++ b)).Perm (K ++ (a ++ b)) := by
  rw [← List.append_assoc, ← List.append_assoc]; exact List.perm_append_comm.append_right b
-- the world of an AppendedVolume: itself, the volume now, the rest
def az_x (ax an au : Nat → Nat) : Nat × va_E := (ax 0, .inr (6, [.ref (an 0), .ref (au 0), .ref (ax 1)]))
def az_w6 (g : az_G) (ax an au : Nat → Nat) (V : az_St) (Y : va_W) : va_W := az_x ax an au :: (az_cV g an V ++ Y)
def az_cH (g : az_G) (ax : Nat → Nat) (aw : Nat → Nat → Nat) (S : Nat → az_St) (h : Nat → Int32) : va_W := (ax 1, .inr (1, [.ref (ax 2), .int (h 0), .int (h 1)])) :: (ax 2, .inl (g.2 3, 8, .inr (.inr (.inr (.inr (fun i => some (aw i 0))))))) ::
  (az_cV g (aw 0) (S 0) ++ (az_cV g (aw 1) (S 1) ++ (az_cV g (aw 2) (S 2) ++ (az_cV g (aw 3) (S 3) ++ (az_cV g (aw 4) (S 4) ++ (az_cV g (aw 5) (S 5) ++ (az_cV g (aw 6) (S 6) ++ az_cV g (aw 7) (S 7))))))))
theorem az_pH {α : Type} (x : α) (N T H : List α) : (x :: (N ++ (T ++ H))).Perm ((H ++ N) ++ (x :: T)) := by
  have h1 : (x :: (N ++ (T ++ H))).Perm ((x :: T) ++ (H ++ N)) := by
    refine List.Perm.cons x ?_
    refine (az_pm N T H).trans ?_
    exact List.Perm.append_left T List.perm_append_comm
  exact h1.trans List.perm_append_comm
theorem az_pT {α : Type} (x : α) (N T H : List α) : (x :: (N ++ (T ++ H))).Perm ((T ++ N) ++ (x :: H)) := by
  have h1 : (x :: (N ++ (T ++ H))).Perm ((x :: H) ++ (T ++ N)) := by
    refine List.Perm.cons x ?_
    have h2 : (N ++ (T ++ H)).Perm (H ++ (N ++ T)) := by rw [← List.append_assoc]; exact List.perm_append_comm
    exact h2.trans (List.Perm.append_left H List.perm_append_comm)
  exact h1.trans List.perm_append_comm
theorem az_lt8 {j : Nat} (h : j < 8) : j = 0 ∨ j = 1 ∨ j = 2 ∨ j = 3 ∨ j = 4 ∨ j = 5 ∨ j = 6 ∨ j = 7 := by omega
theorem az_in_lt {i : Int32} {n : Nat} (h : az_in i n = true) : i.toNatClampNeg < n := Nat.not_le.mp fun q => (az_vin h) (Or.inr q)
