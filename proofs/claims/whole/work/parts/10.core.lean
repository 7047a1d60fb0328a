/-! THE CORE: worlds, contracts 'the answer is F's', and the rows that every walk uses -/
abbrev az_St : Type := Nat → Nat → Int32
abbrev az_G : Type := va_G × (Nat → ClassId)
abbrev az_cl : List vw_C := [(RX0, TX0, 6), (RX1, TX1, 3), (RX2, TX2, 2), (RX3, TX3, 6), (RX4, TX4, 2), (RX5, TX5, 11), (RX6, TX6, 3), (RX7, TX7, 5)]
abbrev az_tys (g : az_G) : List (ClassId × FieldType) := [(g.2 0, .int), (g.2 1, .boolean), (g.2 2, .long), (g.2 3, .object "AppendedVolume$Volume")]
def az_at (g : az_G) (ws : va_W) (A : Nat → Prop) (t : State) : Prop := va_P g.1 az_cl ws t.heap ∧ va_K g.1 az_cl (az_tys g) t ∧ va_D A ws
def az_pre (g : az_G) (ws : va_W) (sz : Nat) (U : State) : Prop := U.heap.size = sz ∧ va_P g.1 az_cl ws U.heap ∧ va_K g.1 az_cl (az_tys g) U ∧ va_D (fun _ => True) ws
def az_QI (g : az_G) (ws : va_W) (r : Int32) (A : Nat → Prop) : Array Value → State → Outcome → State → Prop := va_Qi (fun r2 (_ : Unit) => r2 = r) (fun _ t => az_at g ws A t) A
def az_QV (g : az_G) (ws : va_W) (A : Nat → Prop) : Array Value → State → Outcome → State → Prop := va_Qv (fun (_ : Unit) => True) (fun _ t => az_at g ws A t) A
/-- a method that makes no cell, and answers the int r: its world was ws, and is ws' -/
def az_I (l : Launch) (y : MethodName) (wl : List Cond) (rm : Room) (av : List Value) (g : az_G) (ws : va_W) (r : Int32) (ws' : va_W) : Prop :=
  ∀ sz : Nat, Met l y wl rm (va_Pc av (az_pre g ws sz)) (az_QI g ws' r (va_A ws sz)) 0 0 (va_A ws sz)
/-- the same without an answer -/
def az_V (l : Launch) (y : MethodName) (wl : List Cond) (rm : Room) (av : List Value) (g : az_G) (ws : va_W) (ws' : va_W) : Prop :=
  ∀ sz : Nat, Met l y wl rm (va_Pc av (az_pre g ws sz)) (az_QV g ws' (va_A ws sz)) 0 0 (va_A ws sz)
theorem az_ite {c : Prop} [Decidable c] {α : Type} {x : Option α} {o : α} (h : (if c then x else none) = some o) : c ∧ x = some o := by
  by_cases hc : c
  · rw [if_pos hc] at h; exact ⟨hc, h⟩
  · rw [if_neg hc] at h; cases h
theorem az_pos {c : Prop} [Decidable c] {α : Type} {x y z : α} (hc : c) (h : (if c then x else y) = z) : x = z := by rw [if_pos hc] at h; exact h
theorem az_neg {c : Prop} [Decidable c] {α : Type} {x y z : α} (hc : ¬ c) (h : (if c then x else y) = z) : y = z := by rw [if_neg hc] at h; exact h
theorem az_non {α : Type} {o : α} {P : Prop} (h : (none : Option α) = some o) : P := by cases h
theorem az_bnd {α β : Type} {x : Option α} {f : α → Option β} {o : β} (h : x.bind f = some o) : ∃ a, x = some a ∧ f a = some o := Option.bind_eq_some_iff.mp h
def az_in (i : Int32) (n : Nat) : Bool := decide (¬ (i < 0 ∨ n ≤ i.toNatClampNeg))
theorem az_vin {i : Int32} {n : Nat} (h : az_in i n = true) : vp_in i n := (show ¬ (i < 0 ∨ n ≤ i.toNatClampNeg) from of_decide_eq_true h)
def az_lt {α β : Type} (x : α) (f : α → Option β) : Option β := f x
theorem az_let {α β : Type} {f : α → Option β} {x y : α} {o : β} (e : y = x) (h : az_lt x f = some o) : f y = some o := by rw [e]; exact h
theorem az_inr {big ws : List Cond} (ps : List Nat) (hp : ws = ps.filterMap (fun i => big[i]?)) : ∀ w ∈ ws, w ∈ big := by
  intro w hw
  rw [hp] at hw
  obtain ⟨i, -, hi⟩ := List.mem_filterMap.mp hw
  exact List.mem_of_getElem? hi
def az_01 (r : Int32) : Bool := decide (r = 0 ∨ r = 1)
theorem az_nar {r : Int32} (h : az_01 r = true) : narrow .boolean (.int r) = .int r := by
  rcases of_decide_eq_true h with rfl | rfl <;> rfl
section AZ
variable {p : Program} {l : Launch} {e : Env} {R : Room} {s : State} {m : MethodId} {args : Array Value} {below : List Frame} {meth : Method} {c : Code} {H : Heap} {locs : List Loc} {cells slots : Nat} {Q : State → Prop}
theorem az_body {y : MethodName} {wl wl' : List Cond} {rm : Room} {av : List Value} {g : az_G} {ws : va_W} {cc : ByteArray} {maxL : Nat} {ret : Option FieldType} {Qc : (Nat → Prop) → Array Value → State → Outcome → State → Prop}
    (hy : plainName y.cls = true) (hw : wl = Cond.code y cc maxL ret :: wl') (hav : (lg_sl av).length ≤ maxL)
    (body : ∀ (p : Program) (e : Env) (s : State) (m : MethodId) (args : Array Value) (below : List Frame) (meth : Method) (c : Code) (A : Nat → Prop), p.tables.exec = Jvm.exec → c.code = cc → meth.sig.returnType = ret → (∀ w ∈ wl, w.before args s = true) → s.vm.findClass y.cls = some m.cls → c.maxLocals = maxL → meth.locks = false →
      (∀ q : Nat, s.heap.size ≤ q → A q) → va_K g.1 az_cl (az_tys g) s → va_P g.1 az_cl ws s.heap → va_D A ws → va_S A s.heap s.heap [] → ∀ ls : Array Slot, lv_has ls maxL (lv_args 0 av) → W p l e rm s m args below meth c s.heap [] 0 0 (MQ below (Qc A) args s 0 0 A) (F0 m 0 ls [])) :
    ∀ sz : Nat, Met l y wl rm (va_Pc av (az_pre g ws sz)) (Qc (va_A ws sz)) 0 0 (va_A ws sz) := by
  intro sz
  refine Met.ofW (cc := cc) (maxL := maxL) (ret := ret) hy hw ?_
  intro p e s m args below meth c s₁ B hml hv
  obtain ⟨rfl, hsz, hP, hK, hD0⟩ := hv
  subst hsz
  have h := body p e s m av.toArray below meth c (va_A ws s.heap.size) B.exec B.bytes B.returns (atoms_spec (ws := wl) B.pre) (findClass_of_methodNamed B.named) hml B.notSynchronized (fun q h => Or.inr h) hK hP hD0.self va_S.rf
    ((lg_sl av ++ List.replicate (maxL - (lg_sl av).length) Slot.unset).toArray) (lv_entry av hav)
  rw [lg_entry_eq]
  exact h
variable {g : az_G} {cc : ByteArray} {pc : Nat} {ls : Array Slot} {ws ws' : va_W} {A : Nat → Prop}
theorem az_iret {r : Int32} (hx : p.tables.exec = Jvm.exec) (hb : c.code = cc) (hr : meth.sig.returnType = some .int) (hlocks : meth.locks = false) (hK : va_K g.1 az_cl (az_tys g) s) (hP : va_P g.1 az_cl ws' H) (hD : va_D A ws') (hS : va_S A s.heap H locs) (hdg : decode cc pc = .ok (.ireturn, 1)) :
    W p l e R s m args below meth c H locs 0 0 (MQ below (az_QI g ws' r A) args s 0 0 A) (F0 m pc ls [.int r]) :=
  W.iret (v := r) hx hb hr (fun t ht hW => ⟨⟨r, (), rfl, rfl, by rw [ht]; exact hP, va_K.moved hW.alike hK, hD⟩, hS.F ht⟩) hS.2.2 hdg hlocks
theorem az_zret {r : Int32} (hx : p.tables.exec = Jvm.exec) (hb : c.code = cc) (hr : meth.sig.returnType = some .boolean) (hlocks : meth.locks = false) (hn : narrow .boolean (.int r) = .int r) (hK : va_K g.1 az_cl (az_tys g) s) (hP : va_P g.1 az_cl ws' H) (hD : va_D A ws') (hS : va_S A s.heap H locs) (hdg : decode cc pc = .ok (.ireturn, 1)) :
    W p l e R s m args below meth c H locs 0 0 (MQ below (az_QI g ws' r A) args s 0 0 A) (F0 m pc ls [.int r]) :=
  W.zret (v := r) hx hb hr hn (fun t ht hW => ⟨⟨r, (), rfl, rfl, by rw [ht]; exact hP, va_K.moved hW.alike hK, hD⟩, hS.F ht⟩) hS.2.2 hdg hlocks
theorem az_vret (hx : p.tables.exec = Jvm.exec) (hb : c.code = cc) (hr : meth.sig.returnType = none) (hlocks : meth.locks = false) (hK : va_K g.1 az_cl (az_tys g) s) (hP : va_P g.1 az_cl ws' H) (hD : va_D A ws') (hS : va_S A s.heap H locs) (hdg : decode cc pc = .ok (.return_, 1)) :
    W p l e R s m args below meth c H locs 0 0 (MQ below (az_QV g ws' A) args s 0 0 A) (F0 m pc ls []) :=
  W.vret hx hb hr (fun t ht hW => ⟨⟨(), rfl, trivial, by rw [ht]; exact hP, va_K.moved hW.alike hK, hD⟩, hS.F ht⟩) hS.2.2 hdg hlocks
theorem az_blind (av : List Value) (g : az_G) (wc : va_W) (sz : Nat) : FrameBlind (va_Pc av (az_pre g wc sz)) := by
  intro a U f mk q
  obtain ⟨q0, q1, qP, qK, qD⟩ := q
  exact ⟨q0, q1, qP, va_K.moved (u := U) (U := U.calling f mk a) (Vm.Alike.refl U.vm) qK, qD⟩
/-- behind a call: the caller's list again -/
theorem az_join {D : va_G} {cl : List vw_C} {wc wr w1 w2 : va_W} {H1 : Heap} (hP : va_P D cl ws H) (hD : va_D A ws) (isC isR pm : List Nat) (hC : isC.map (fun i => ws[i]?) = wc.map some) (hR : isR.map (fun i => ws[i]?) = wr.map some) (hn : va_nd isR = true) (hdis : ∀ i ∈ isR, i ∉ isC) (hpn : va_nd pm = true) (hpm : pm.map (fun i => (wr ++ w1)[i]?) = w2.map some) (hpf : pm.filterMap (fun i => (wr ++ w1)[i]?) = w2)
    (hk : ∀ q : Nat, q < H.size → ¬ va_A wc H.size q → H1[q]? = H[q]?) (hF : ∀ q, va_A wc H.size q → A q) (hP1 : va_P D cl w1 H1) (hD1 : va_D (va_A wc H.size) w1) : va_P D cl w2 H1 ∧ va_D A w2 := by
  obtain ⟨h1, h2⟩ := va_join hP hD isC isR hC hR hn hdis hk hF hP1 hD1
  exact ⟨h1.sub pm hpf, h2.sub pm hpn hpm⟩
variable {H0 : Heap} {y : MethodName} {bytes : ByteArray} {maxL nL n index : Nat} {ret : Option FieldType} {wl : List Cond} {rm : Room} {Ts : List Cond} {own C : String} {b : Addr} {As rest : List Value} {wc w1 w2 : va_W}
/-- a call of a method of an object (invokevirtual), its world a part of the caller's -/
theorem az_callVi (S : CallFix p m c cc nL s args Ts own) (hl : ls.size = nL) {r : Int32} (hM : az_I l y wl rm (.ref b :: As) g wc r w1) (cw : CallW R s args own C index y bytes maxL ret wl rm 0 0 n) (hn : As.length = n)
    (hK : va_K g.1 az_cl (az_tys g) s) (hP : va_P g.1 az_cl ws H) (hD : va_D A ws) (hS : va_S A H0 H locs) (hA : ∀ q : Nat, H0.size ≤ q → A q) (isC isR pm : List Nat)
    (hC : isC.map (fun i => ws[i]?) = wc.map some) (hCf : isC.filterMap (fun i => ws[i]?) = wc) (hCn : va_nd isC = true) (hR : isR.map (fun i => ws[i]?) = (isR.filterMap (fun i => ws[i]?)).map some) (hRn : va_nd isR = true) (hdis : ∀ i ∈ isR, i ∉ isC) (hpn : va_nd pm = true) (hpm : pm.map (fun i => (isR.filterMap (fun i => ws[i]?) ++ w1)[i]?) = w2.map some) (hpf : pm.filterMap (fun i => (isR.filterMap (fun i => ws[i]?) ++ w1)[i]?) = w2)
    (q0 : Nat) {ci : Nat} {fs : List Value} {q : vw_C} (hc : az_cl[ci]? = some q) (hqC : q.1 = C) (he : wc[q0]? = some (b, .inr (ci, fs)))
    (hroom : (rest.map fun v => v.category).sum ≤ 8) (hdg : decode cc pc = .ok (.invokevirtual index, 3)) (hf : cells ≤ R.cells ∧ slots ≤ R.slots)
    {st0 : List Value} (hst : st0 = As.reverse ++ .ref b :: rest)
    (kk : ∀ (H1 : Heap) (locs1 : List Loc), va_P g.1 az_cl w2 H1 → va_D A w2 → va_S A H0 H1 locs1 → W p l e R s m args below meth c H1 locs1 cells slots Q (F0 m (pc + 3) ls (.int r :: rest))) :
    W p l e R s m args below meth c H locs cells slots Q (F0 m pc ls st0) := by
  have hPc := hP.sub isC hCf
  have hDc := hD.sub isC hCn hC
  have hFc := va_free hD hS hA isC hC
  refine va_calli (va_runV (As := As) (rest := rest) S (hM H.size) cw ⟨az_blind _ _ _ _, ?_, fun U hU hW => ⟨rfl, by rw [hU], by rw [hU]; exact hPc, va_K.moved hW.alike hK, hDc.weaken (fun _ _ _ _ => trivial)⟩⟩ rfl hn hl hst (lv_room hroom) hdg hf) hS (fun q _ h => hFc q h) hFc (fun r2 u t H1 locs1 ht hvm hw hB hz1 hk1 hS => ?_)
  · have := va_recv (q := q) hK hPc hc he
    rw [hqC] at this
    exact this
  · obtain ⟨hP1, hK1, hD1⟩ := hB
    rw [ht] at hP1
    obtain ⟨hP2, hD2⟩ := az_join hP hD isC isR pm hC hR hRn hdis hpn hpm hpf hk1 hFc hP1 hD1
    have hw : r2 = r := hw
    subst hw
    exact kk H1 locs1 hP2 hD2 hS
theorem az_callVv (S : CallFix p m c cc nL s args Ts own) (hl : ls.size = nL) (hM : az_V l y wl rm (.ref b :: As) g wc w1) (cw : CallW R s args own C index y bytes maxL ret wl rm 0 0 n) (hn : As.length = n)
    (hK : va_K g.1 az_cl (az_tys g) s) (hP : va_P g.1 az_cl ws H) (hD : va_D A ws) (hS : va_S A H0 H locs) (hA : ∀ q : Nat, H0.size ≤ q → A q) (isC isR pm : List Nat)
    (hC : isC.map (fun i => ws[i]?) = wc.map some) (hCf : isC.filterMap (fun i => ws[i]?) = wc) (hCn : va_nd isC = true) (hR : isR.map (fun i => ws[i]?) = (isR.filterMap (fun i => ws[i]?)).map some) (hRn : va_nd isR = true) (hdis : ∀ i ∈ isR, i ∉ isC) (hpn : va_nd pm = true) (hpm : pm.map (fun i => (isR.filterMap (fun i => ws[i]?) ++ w1)[i]?) = w2.map some) (hpf : pm.filterMap (fun i => (isR.filterMap (fun i => ws[i]?) ++ w1)[i]?) = w2)
    (q0 : Nat) {ci : Nat} {fs : List Value} {q : vw_C} (hc : az_cl[ci]? = some q) (hqC : q.1 = C) (he : wc[q0]? = some (b, .inr (ci, fs)))
    (hroom : (rest.map fun v => v.category).sum ≤ 8) (hdg : decode cc pc = .ok (.invokevirtual index, 3)) (hf : cells ≤ R.cells ∧ slots ≤ R.slots)
    {st0 : List Value} (hst : st0 = As.reverse ++ .ref b :: rest)
    (kk : ∀ (H1 : Heap) (locs1 : List Loc), va_P g.1 az_cl w2 H1 → va_D A w2 → va_S A H0 H1 locs1 → W p l e R s m args below meth c H1 locs1 cells slots Q (F0 m (pc + 3) ls rest)) :
    W p l e R s m args below meth c H locs cells slots Q (F0 m pc ls st0) := by
  have hPc := hP.sub isC hCf
  have hDc := hD.sub isC hCn hC
  have hFc := va_free hD hS hA isC hC
  refine va_callv (va_runV (As := As) (rest := rest) S (hM H.size) cw ⟨az_blind _ _ _ _, ?_, fun U hU hW => ⟨rfl, by rw [hU], by rw [hU]; exact hPc, va_K.moved hW.alike hK, hDc.weaken (fun _ _ _ _ => trivial)⟩⟩ rfl hn hl hst (lv_room hroom) hdg hf) hS (fun q _ h => hFc q h) hFc (fun u t H1 locs1 ht hvm hw hB hz1 hk1 hS => ?_)
  · have := va_recv (q := q) hK hPc hc he
    rw [hqC] at this
    exact this
  · obtain ⟨hP1, hK1, hD1⟩ := hB
    rw [ht] at hP1
    obtain ⟨hP2, hD2⟩ := az_join hP hD isC isR pm hC hR hRn hdis hpn hpm hpf hk1 hFc hP1 hD1
    exact kk H1 locs1 hP2 hD2 hS
/-- a call of a static method -/
theorem az_callSi (S : CallFix p m c cc nL s args Ts own) (hl : ls.size = nL) {r : Int32} (hM : az_I l y wl rm As g wc r w1) (cw : CallB R s args own index y bytes maxL ret wl rm 0 0 n ∧ (Cond.static y).before args s = true) (hn : As.length = n)
    (hK : va_K g.1 az_cl (az_tys g) s) (hP : va_P g.1 az_cl ws H) (hD : va_D A ws) (hS : va_S A H0 H locs) (hA : ∀ q : Nat, H0.size ≤ q → A q) (isC isR pm : List Nat)
    (hC : isC.map (fun i => ws[i]?) = wc.map some) (hCf : isC.filterMap (fun i => ws[i]?) = wc) (hCn : va_nd isC = true) (hR : isR.map (fun i => ws[i]?) = (isR.filterMap (fun i => ws[i]?)).map some) (hRn : va_nd isR = true) (hdis : ∀ i ∈ isR, i ∉ isC) (hpn : va_nd pm = true) (hpm : pm.map (fun i => (isR.filterMap (fun i => ws[i]?) ++ w1)[i]?) = w2.map some) (hpf : pm.filterMap (fun i => (isR.filterMap (fun i => ws[i]?) ++ w1)[i]?) = w2)
    (hroom : (rest.map fun v => v.category).sum ≤ 8) (hdg : decode cc pc = .ok (.invokestatic index, 3)) (hf : cells ≤ R.cells ∧ slots ≤ R.slots)
    {st0 : List Value} (hst : st0 = As.reverse ++ rest)
    (kk : ∀ (H1 : Heap) (locs1 : List Loc), va_P g.1 az_cl w2 H1 → va_D A w2 → va_S A H0 H1 locs1 → W p l e R s m args below meth c H1 locs1 cells slots Q (F0 m (pc + 3) ls (.int r :: rest))) :
    W p l e R s m args below meth c H locs cells slots Q (F0 m pc ls st0) := by
  have hPc := hP.sub isC hCf
  have hDc := hD.sub isC hCn hC
  have hFc := va_free hD hS hA isC hC
  refine va_calli (va_runS (As := As) (rest := rest) S (hM H.size) cw ⟨az_blind _ _ _ _, fun U hU hW => ⟨rfl, by rw [hU], by rw [hU]; exact hPc, va_K.moved hW.alike hK, hDc.weaken (fun _ _ _ _ => trivial)⟩⟩ rfl hn hl hst (lv_room hroom) hdg hf) hS (fun q _ h => hFc q h) hFc (fun r2 u t H1 locs1 ht hvm hw hB hz1 hk1 hS => ?_)
  obtain ⟨hP1, hK1, hD1⟩ := hB
  rw [ht] at hP1
  obtain ⟨hP2, hD2⟩ := az_join hP hD isC isR pm hC hR hRn hdis hpn hpm hpf hk1 hFc hP1 hD1
  have hw : r2 = r := hw
  subst hw
  exact kk H1 locs1 hP2 hD2 hS
theorem az_callSv (S : CallFix p m c cc nL s args Ts own) (hl : ls.size = nL) (hM : az_V l y wl rm As g wc w1) (cw : CallB R s args own index y bytes maxL ret wl rm 0 0 n ∧ (Cond.static y).before args s = true) (hn : As.length = n)
    (hK : va_K g.1 az_cl (az_tys g) s) (hP : va_P g.1 az_cl ws H) (hD : va_D A ws) (hS : va_S A H0 H locs) (hA : ∀ q : Nat, H0.size ≤ q → A q) (isC isR pm : List Nat)
    (hC : isC.map (fun i => ws[i]?) = wc.map some) (hCf : isC.filterMap (fun i => ws[i]?) = wc) (hCn : va_nd isC = true) (hR : isR.map (fun i => ws[i]?) = (isR.filterMap (fun i => ws[i]?)).map some) (hRn : va_nd isR = true) (hdis : ∀ i ∈ isR, i ∉ isC) (hpn : va_nd pm = true) (hpm : pm.map (fun i => (isR.filterMap (fun i => ws[i]?) ++ w1)[i]?) = w2.map some) (hpf : pm.filterMap (fun i => (isR.filterMap (fun i => ws[i]?) ++ w1)[i]?) = w2)
    (hroom : (rest.map fun v => v.category).sum ≤ 8) (hdg : decode cc pc = .ok (.invokestatic index, 3)) (hf : cells ≤ R.cells ∧ slots ≤ R.slots)
    {st0 : List Value} (hst : st0 = As.reverse ++ rest)
    (kk : ∀ (H1 : Heap) (locs1 : List Loc), va_P g.1 az_cl w2 H1 → va_D A w2 → va_S A H0 H1 locs1 → W p l e R s m args below meth c H1 locs1 cells slots Q (F0 m (pc + 3) ls rest)) :
    W p l e R s m args below meth c H locs cells slots Q (F0 m pc ls st0) := by
  have hPc := hP.sub isC hCf
  have hDc := hD.sub isC hCn hC
  have hFc := va_free hD hS hA isC hC
  refine va_callv (va_runS (As := As) (rest := rest) S (hM H.size) cw ⟨az_blind _ _ _ _, fun U hU hW => ⟨rfl, by rw [hU], by rw [hU]; exact hPc, va_K.moved hW.alike hK, hDc.weaken (fun _ _ _ _ => trivial)⟩⟩ rfl hn hl hst (lv_room hroom) hdg hf) hS (fun q _ h => hFc q h) hFc (fun u t H1 locs1 ht hvm hw hB hz1 hk1 hS => ?_)
  obtain ⟨hP1, hK1, hD1⟩ := hB
  rw [ht] at hP1
  obtain ⟨hP2, hD2⟩ := az_join hP hD isC isR pm hC hR hRn hdis hpn hpm hpf hk1 hFc hP1 hD1
  exact kk H1 locs1 hP2 hD2 hS
/-- a call of a static method without a world -/
theorem az_callS0 (S : CallFix p m c cc nL s args Ts own) (hl : ls.size = nL) {r : Int32} (hM : az_I l y wl rm As g [] r []) (cw : CallB R s args own index y bytes maxL ret wl rm 0 0 n ∧ (Cond.static y).before args s = true) (hn : As.length = n)
    (hK : va_K g.1 az_cl (az_tys g) s) (hP : va_P g.1 az_cl ws H) (hS : va_S A H0 H locs) (hA : ∀ q : Nat, H0.size ≤ q → A q)
    (hroom : (rest.map fun v => v.category).sum ≤ 8) (hdg : decode cc pc = .ok (.invokestatic index, 3)) (hf : cells ≤ R.cells ∧ slots ≤ R.slots)
    {st0 : List Value} (hst : st0 = As.reverse ++ rest)
    (kk : ∀ (H1 : Heap) (locs1 : List Loc), va_P g.1 az_cl ws H1 → va_S A H0 H1 locs1 → W p l e R s m args below meth c H1 locs1 cells slots Q (F0 m (pc + 3) ls (.int r :: rest))) :
    W p l e R s m args below meth c H locs cells slots Q (F0 m pc ls st0) := by
  have hF : ∀ q, va_A [] H.size q → A q := by
    intro q h
    rcases h with ⟨k, e, h⟩ | h
    · simp at h
    · exact hA q (Nat.le_trans hS.1 h)
  refine va_calli (va_runS (As := As) (rest := rest) S (hM H.size) cw ⟨az_blind _ _ _ _, fun U hU hW => ⟨rfl, by rw [hU], (fun k q h => by simp at h), va_K.moved hW.alike hK, ⟨fun i j p q h => by simp at h, fun k q h => by simp at h⟩⟩⟩ rfl hn hl hst (lv_room hroom) hdg hf) hS (fun q _ h => hF q h) hF (fun r2 u t H1 locs1 ht hvm hw hB hz1 hk1 hS => ?_)
  have hw : r2 = r := hw
  subst hw
  refine kk H1 locs1 (fun k q hq => (hP k q hq).kept (hk1 q.1 (hP k q hq).lt ?_)) hS
  rintro (⟨k2, e2, h2⟩ | h2)
  · simp at h2
  · exact Nat.lt_irrefl _ (Nat.lt_of_lt_of_le (hP k q hq).lt h2)
end AZ
-- the pictures: a volume's parts at the addresses ad, its state V (components 0-3 segments, 4 their number and size, 5-10 blocks, 11-12 readers, 13-14 snapshots, 15 live, 16 the volume's own ints)
def az_cS (g : az_G) (ad : Nat → Nat) (V : az_St) : va_W := [(ad 1, .inr (3, [.ref (ad 2), .ref (ad 3), .ref (ad 4), .ref (ad 5), .int (V 4 0), .int (V 4 1)])), (ad 2, .inl (g.2 0, 10, .inl (V 0))), (ad 3, .inl (g.2 0, 10, .inl (V 1))), (ad 4, .inl (g.2 0, 10, .inl (V 2))), (ad 5, .inl (g.2 0, 2, .inl (V 3)))]
def az_cB (g : az_G) (ad : Nat → Nat) (V : az_St) : va_W := [(ad 6, .inr (0, [.ref (ad 7), .ref (ad 8), .ref (ad 9), .ref (ad 10), .ref (ad 11), .ref (ad 12)])), (ad 7, .inl (g.2 0, 160, .inl (V 5))), (ad 8, .inl (g.2 0, 160, .inl (V 6))), (ad 9, .inl (g.2 0, 160, .inl (V 7))), (ad 10, .inl (g.2 0, 160, .inl (V 8))), (ad 11, .inl (g.2 0, 160, .inl (V 9))), (ad 12, .inl (g.2 0, 160, .inl (V 10)))]
def az_cR (g : az_G) (ad : Nat → Nat) (V : az_St) : va_W := [(ad 13, .inr (2, [.ref (ad 14), .ref (ad 15)])), (ad 14, .inl (g.2 0, 6, .inl (V 11))), (ad 15, .inl (g.2 0, 6, .inl (V 12)))]
def az_cP (g : az_G) (ad : Nat → Nat) (V : az_St) : va_W := [(ad 16, .inr (4, [.ref (ad 17), .ref (ad 18)])), (ad 17, .inl (g.2 1, 4, .inl (V 13))), (ad 18, .inl (g.2 0, 96, .inl (V 14)))]
def az_cPL (g : az_G) (ad : Nat → Nat) (V : az_St) : va_W := [(ad 16, .inr (4, [.ref (ad 17), .ref (ad 18)])), (ad 17, .inl (g.2 1, 4, .inl (V 13))), (ad 18, .inl (g.2 0, 96, .inl (V 14))), (ad 19, .inl (g.2 0, 24, .inl (V 15)))]
def az_cV (g : az_G) (ad : Nat → Nat) (V : az_St) : va_W := [(ad 0, .inr (5, [.ref (ad 1), .ref (ad 6), .ref (ad 13), .ref (ad 16), .ref (ad 19), .int (V 16 0), .int (V 16 1), .int (V 16 2), .int (V 16 3), .int (V 16 4), .int (V 16 5)])),
  (ad 1, .inr (3, [.ref (ad 2), .ref (ad 3), .ref (ad 4), .ref (ad 5), .int (V 4 0), .int (V 4 1)])), (ad 2, .inl (g.2 0, 10, .inl (V 0))), (ad 3, .inl (g.2 0, 10, .inl (V 1))), (ad 4, .inl (g.2 0, 10, .inl (V 2))), (ad 5, .inl (g.2 0, 2, .inl (V 3))),
  (ad 6, .inr (0, [.ref (ad 7), .ref (ad 8), .ref (ad 9), .ref (ad 10), .ref (ad 11), .ref (ad 12)])), (ad 7, .inl (g.2 0, 160, .inl (V 5))), (ad 8, .inl (g.2 0, 160, .inl (V 6))), (ad 9, .inl (g.2 0, 160, .inl (V 7))), (ad 10, .inl (g.2 0, 160, .inl (V 8))), (ad 11, .inl (g.2 0, 160, .inl (V 9))), (ad 12, .inl (g.2 0, 160, .inl (V 10))),
  (ad 13, .inr (2, [.ref (ad 14), .ref (ad 15)])), (ad 14, .inl (g.2 0, 6, .inl (V 11))), (ad 15, .inl (g.2 0, 6, .inl (V 12))),
  (ad 16, .inr (4, [.ref (ad 17), .ref (ad 18)])), (ad 17, .inl (g.2 1, 4, .inl (V 13))), (ad 18, .inl (g.2 0, 96, .inl (V 14))), (ad 19, .inl (g.2 0, 24, .inl (V 15)))]
/-- the reference's: components 0 a, 1 kept, 2 keptMany and thrown, 3 was -/
def az_cM (g : az_G) (ad : Nat → Nat) (V : az_St) : va_W := [(ad 0, .inr (7, [.ref (ad 1), .ref (ad 2), .int (V 2 0), .int (V 2 1), .ref (ad 3)])), (ad 1, .inl (g.2 0, 1036, .inl (V 0))), (ad 2, .inl (g.2 0, 8288, .inl (V 1))), (ad 3, .inl (g.2 0, 1036, .inl (V 3)))]
/-- one array of ints -/
def az_c1 (g : az_G) (b n : Nat) (f : Nat → Int32) : va_W := [(b, .inl (g.2 0, n, .inl f))]
def az_fuel : Nat := 10000
