/-! THE LAW'S STEPS -/
theorem zcmp (x : Int64) : lg_cmp x x = 0 := by
  unfold lg_cmp
  rw [if_neg (show ¬ x > x by rw [gt_iff_lt, Int64.lt_iff_toInt_lt]; omega), if_pos rfl]
theorem zite {α : Type} {c : Prop} [Decidable c] {a b r : α} (h1 : c → a = r) (h2 : ¬ c → b = r) : (if c then a else b) = r := by
  by_cases h : c
  · rw [if_pos h]; exact h1 h
  · rw [if_neg h]; exact h2 h
def zK (K : az_St → az_St → (Nat → az_St) → (Nat → Int32) → az_St → (Nat → Int64) → Int32 → Option Int32) (N : Nat) (y : Int32) : Prop := ∀ V T S hs Mo f, zBR (N + 1) V S hs Mo → K V T S hs Mo f y = some 1
section LW
variable {K : az_St → az_St → (Nat → az_St) → (Nat → Int32) → az_St → (Nat → Int64) → Int32 → Option Int32} {xs : Nat → Int32} {L N : Nat} {V T : az_St} {S : Nat → az_St} {hs : Nat → Int32} {Mo : az_St} {f : Nat → Int64} {y : Int32}
theorem zBRq (hB : zBR N V S hs Mo) (c : Int32) : zBR (N + 1) V S hs (va_up Mo 2 (upd (Mo 2) 1 c)) := ⟨zGood_up hB.1 (by omega), zHist_up (zHist_q hB.2 (show upd (Mo 2) 1 c 0 = Mo 2 0 from zupd_n (by decide))) (by omega)⟩
theorem zBRr (hB : zBR N V S hs Mo) {V' : az_St} (c : Int32) (h : ∀ i, i < 17 → V' i = V i) : zBR (N + 1) V' S hs (va_up (va_up (va_up Mo 0 (Mo 0)) 1 (Mo 1)) 2 (upd (Mo 2) 1 c)) := ⟨zGood_e (zGood_up hB.1 (by omega)) (zEq_c h) (fun _ _ => rfl), zHist_up (zHist_q hB.2 (show upd (Mo 2) 1 c 0 = Mo 2 0 from zupd_n (by decide))) (by omega)⟩
theorem tg0 {β : Type} {A : Option (Int32 × (Nat → Int64) × az_St × az_St × (Nat → az_St) × (Nat → Int32))} {B : Option β} (val : β → Int32) (mo : β → az_St) {V' T' : az_St} {S' : Nat → az_St} {hs' : Nat → Int32} {p : β} (hA : A = some (0, vp_updL f 0 (val p).toInt64, V', T', S', hs')) (hB : B = some p) (hq : mo p 2 1 = 0) (hK : ∀ f', K V' T' S' hs' (mo p) f' y = some 1) : A.bind (fun o => B.bind (fun p => (FX7_thrown (mo p)).bind (fun t => if t = o.1 then (if o.1 = (0 : Int32) then (if lg_cmp (o.2.1 (0 : Int32).toNatClampNeg) (val p).toInt64 = (0 : Int32) then (K o.2.2.1 o.2.2.2.1 o.2.2.2.2.1 o.2.2.2.2.2 (mo p) o.2.1 y) else (some (0 : Int32))) else (K o.2.2.1 o.2.2.2.1 o.2.2.2.2.1 o.2.2.2.2.2 (mo p) o.2.1 y)) else (some (0 : Int32))))) = some 1 := by
  subst hA hB
  show (if mo p 2 1 = (0 : Int32) then (if (0 : Int32) = 0 then (if lg_cmp (val p).toInt64 (val p).toInt64 = 0 then K V' T' S' hs' (mo p) (vp_updL f 0 (val p).toInt64) y else some 0) else K V' T' S' hs' (mo p) (vp_updL f 0 (val p).toInt64) y) else some 0) = some 1
  rw [if_pos hq, if_pos rfl, if_pos (zcmp _)]
  exact hK _
theorem tg1 {β : Type} {A : Option (Int32 × (Nat → Int64) × az_St × az_St × (Nat → az_St) × (Nat → Int32))} {B : Option β} (val : β → Int32) (mo : β → az_St) {V' T' : az_St} {S' : Nat → az_St} {hs' : Nat → Int32} {p : β} {c : Int32} (hA : A = some (c, f, V', T', S', hs')) (hB : B = some p) (hc : ¬ c = 0) (hq : mo p 2 1 = c) (hK : K V' T' S' hs' (mo p) f y = some 1) : A.bind (fun o => B.bind (fun p => (FX7_thrown (mo p)).bind (fun t => if t = o.1 then (if o.1 = (0 : Int32) then (if lg_cmp (o.2.1 (0 : Int32).toNatClampNeg) (val p).toInt64 = (0 : Int32) then (K o.2.2.1 o.2.2.2.1 o.2.2.2.2.1 o.2.2.2.2.2 (mo p) o.2.1 y) else (some (0 : Int32))) else (K o.2.2.1 o.2.2.2.1 o.2.2.2.2.1 o.2.2.2.2.2 (mo p) o.2.1 y)) else (some (0 : Int32))))) = some 1 := by
  subst hA hB
  show (if mo p 2 1 = c then (if c = 0 then (if lg_cmp (f (0 : Int32).toNatClampNeg) (val p).toInt64 = 0 then K V' T' S' hs' (mo p) f y else some 0) else K V' T' S' hs' (mo p) f y) else some 0) = some 1
  rw [if_pos hq, if_neg hc]
  exact hK
theorem tn {A : Option Int32} {B : Option (Int32 × (Nat → Int32))} (hB : zBR N V S hs Mo) (h : zQ0 A B (Mo 2)) (hK : zK K N y) : A.bind (fun a => B.bind (fun p => if a = p.1 then (K V T S hs (va_up Mo 2 p.2) f y) else (some (0 : Int32)))) = some 1 := by
  obtain ⟨r, rfl, rfl⟩ := h
  show (if r = r then K V T S hs (va_up Mo 2 (upd (Mo 2) 1 0)) f y else some 0) = some 1
  rw [if_pos rfl]
  exact hK _ _ _ _ _ _ (zBRq hB 0)
/-- a question -/
theorem tq0 {A : Option (Int32 × (Nat → Int64) × az_St × az_St × (Nat → az_St) × (Nat → Int32))} {B : Option (Int32 × (Nat → Int32))} {r : Int32} (hB : zBR N V S hs Mo) (hK : zK K N y) (hA : A = some (0, vp_updL f 0 r.toInt64, V, T, S, hs)) (e2 : B = some (r, upd (Mo 2) 1 0)) : A.bind (fun o => B.bind (fun p => (FX7_thrown (va_up Mo 2 p.2)).bind (fun t => if t = o.1 then (if o.1 = (0 : Int32) then (if lg_cmp (o.2.1 (0 : Int32).toNatClampNeg) p.1.toInt64 = (0 : Int32) then (K o.2.2.1 o.2.2.2.1 o.2.2.2.2.1 o.2.2.2.2.2 (va_up Mo 2 p.2) o.2.1 y) else (some (0 : Int32))) else (K o.2.2.1 o.2.2.2.1 o.2.2.2.2.1 o.2.2.2.2.2 (va_up Mo 2 p.2) o.2.1 y)) else (some (0 : Int32))))) = some 1 :=
  tg0 (β := Int32 × (Nat → Int32)) (fun p => p.1) (fun p => va_up Mo 2 p.2) hA e2 (show upd (Mo 2) 1 0 1 = 0 from zupd_s) (fun _ => hK _ _ _ _ _ _ (zBRq hB 0))
theorem tq1 {A : Option (Int32 × (Nat → Int64) × az_St × az_St × (Nat → az_St) × (Nat → Int32))} {B : Option (Int32 × (Nat → Int32))} {b c : Int32} (hB : zBR N V S hs Mo) (hK : zK K N y) (hA : A = some (c, f, V, T, S, hs)) (e2 : B = some (b, upd (Mo 2) 1 c)) (hc : ¬ c = 0) : A.bind (fun o => B.bind (fun p => (FX7_thrown (va_up Mo 2 p.2)).bind (fun t => if t = o.1 then (if o.1 = (0 : Int32) then (if lg_cmp (o.2.1 (0 : Int32).toNatClampNeg) p.1.toInt64 = (0 : Int32) then (K o.2.2.1 o.2.2.2.1 o.2.2.2.2.1 o.2.2.2.2.2 (va_up Mo 2 p.2) o.2.1 y) else (some (0 : Int32))) else (K o.2.2.1 o.2.2.2.1 o.2.2.2.2.1 o.2.2.2.2.2 (va_up Mo 2 p.2) o.2.1 y)) else (some (0 : Int32))))) = some 1 :=
  tg1 (β := Int32 × (Nat → Int32)) (fun p => p.1) (fun p => va_up Mo 2 p.2) hA e2 hc (show upd (Mo 2) 1 c 1 = c from zupd_s) (hK _ _ _ _ _ _ (zBRq hB c))
theorem LC3 (hB : zBR N V S hs Mo) (hN : N < 50000) (hK : zK K N (y + 4)) (h1 : az_in (y + 1) L = true) : F_law_C3 K xs L V T S hs Mo f y = some 1 := by
  obtain ⟨⟨n, z, e, t, u, hR, hI, hH, hQ, he, hNN⟩, -⟩ := id hB
  unfold F_law_C3
  rw [if_pos h1]
  rcases q_get (V := V) (M := Mo) (x := (xs (y + 1).toNatClampNeg)) hR hI with ⟨r, b, e1, e2, e3⟩ | ⟨r, b, e1, e2, e3⟩ | ⟨r, b, e1, e2, e3⟩
  · obtain rfl := e3 rfl
    exact tq0 hB hK (show FL_get V T S hs f (xs (y + 1).toNatClampNeg) = some (0, vp_updL f 0 b.toInt64, V, T, S, hs) by unfold FL_get; rw [e1]; rfl) e2
  · exact tq1 hB hK (show FL_get V T S hs f (xs (y + 1).toNatClampNeg) = some (1, f, V, T, S, hs) by unfold FL_get; rw [e1]; rfl) e2 (by decide)
  · exact tq1 hB hK (show FL_get V T S hs f (xs (y + 1).toNatClampNeg) = some (2, f, V, T, S, hs) by unfold FL_get; rw [e1]; rfl) e2 (by decide)
theorem LC4 (hB : zBR N V S hs Mo) (hN : N < 50000) (hK : zK K N (y + 4)) (h1 : az_in (y + 1) L = true) : F_law_C4 K xs L V T S hs Mo f y = some 1 := by
  obtain ⟨⟨n, z, e, t, u, hR, hI, hH, hQ, he, hNN⟩, -⟩ := id hB
  unfold F_law_C4
  rw [if_pos h1]
  rcases q_addressOf (V := V) (M := Mo) (x := (xs (y + 1).toNatClampNeg)) hR with ⟨r, b, e1, e2, e3⟩ | ⟨r, b, e1, e2, e3⟩
  · obtain rfl := e3 rfl
    exact tq0 hB hK (show FL_addressOf V T S hs f (xs (y + 1).toNatClampNeg) = some (0, vp_updL f 0 b.toInt64, V, T, S, hs) by unfold FL_addressOf; rw [e1]; rfl) e2
  · exact tq1 hB hK (show FL_addressOf V T S hs f (xs (y + 1).toNatClampNeg) = some (1, f, V, T, S, hs) by unfold FL_addressOf; rw [e1]; rfl) e2 (by decide)
theorem LC6 (hB : zBR N V S hs Mo) (hN : N < 50000) (hK : zK K N (y + 4)) (h1 : az_in (y + 1) L = true) : F_law_C6 K xs L V T S hs Mo f y = some 1 := by
  obtain ⟨⟨n, z, e, t, u, hR, hI, hH, hQ, he, hNN⟩, -⟩ := id hB
  unfold F_law_C6
  rw [if_pos h1]
  rcases q_versions (V := V) (M := Mo) (x := (xs (y + 1).toNatClampNeg)) hR hI with ⟨r, b, e1, e2, e3⟩ | ⟨r, b, e1, e2, e3⟩
  · obtain rfl := e3 rfl
    exact tq0 hB hK (show FL_versions V T S hs f (xs (y + 1).toNatClampNeg) = some (0, vp_updL f 0 b.toInt64, V, T, S, hs) by unfold FL_versions; rw [e1]; rfl) e2
  · exact tq1 hB hK (show FL_versions V T S hs f (xs (y + 1).toNatClampNeg) = some (1, f, V, T, S, hs) by unfold FL_versions; rw [e1]; rfl) e2 (by decide)
theorem LC7 (hB : zBR N V S hs Mo) (hN : N < 50000) (hK : zK K N (y + 4)) (h1 : az_in (y + 1) L = true) (h2 : az_in (y + 2) L = true) : F_law_C7 K xs L V T S hs Mo f y = some 1 := by
  obtain ⟨⟨n, z, e, t, u, hR, hI, hH, hQ, he, hNN⟩, -⟩ := id hB
  unfold F_law_C7
  rw [if_pos h1, if_pos h2]
  rcases q_version (V := V) (M := Mo) (x := (xs (y + 1).toNatClampNeg)) (x2 := (xs (y + 2).toNatClampNeg)) hR hI with ⟨r, b, e1, e2, e3⟩ | ⟨r, b, e1, e2, e3⟩
  · obtain rfl := e3 rfl
    exact tq0 hB hK (show FL_version V T S hs f (xs (y + 1).toNatClampNeg) (xs (y + 2).toNatClampNeg) = some (0, vp_updL f 0 b.toInt64, V, T, S, hs) by unfold FL_version; rw [e1]; rfl) e2
  · exact tq1 hB hK (show FL_version V T S hs f (xs (y + 1).toNatClampNeg) (xs (y + 2).toNatClampNeg) = some (1, f, V, T, S, hs) by unfold FL_version; rw [e1]; rfl) e2 (by decide)
theorem LC11 (hB : zBR N V S hs Mo) (hN : N < 50000) (hK : zK K N (y + 4)) (h1 : az_in (y + 1) L = true) (h2 : az_in (y + 2) L = true) : F_law_C11 K xs L V T S hs Mo f y = some 1 := by
  obtain ⟨⟨n, z, e, t, u, hR, hI, hH, hQ, he, hNN⟩, -⟩ := id hB
  unfold F_law_C11
  rw [if_pos h1, if_pos h2]
  rcases q_getFrom (V := V) (M := Mo) (x := (xs (y + 1).toNatClampNeg)) (x2 := (xs (y + 2).toNatClampNeg)) hR hI with ⟨r, b, e1, e2, e3⟩ | ⟨r, b, e1, e2, e3⟩ | ⟨r, b, e1, e2, e3⟩ | ⟨r, b, e1, e2, e3⟩
  · obtain rfl := e3 rfl
    exact tq0 hB hK (show FL_getFrom V T S hs f (xs (y + 1).toNatClampNeg) (xs (y + 2).toNatClampNeg) = some (0, vp_updL f 0 b.toInt64, V, T, S, hs) by unfold FL_getFrom; rw [e1]; rfl) e2
  · exact tq1 hB hK (show FL_getFrom V T S hs f (xs (y + 1).toNatClampNeg) (xs (y + 2).toNatClampNeg) = some (1, f, V, T, S, hs) by unfold FL_getFrom; rw [e1]; rfl) e2 (by decide)
  · exact tq1 hB hK (show FL_getFrom V T S hs f (xs (y + 1).toNatClampNeg) (xs (y + 2).toNatClampNeg) = some (2, f, V, T, S, hs) by unfold FL_getFrom; rw [e1]; rfl) e2 (by decide)
  · exact tq1 hB hK (show FL_getFrom V T S hs f (xs (y + 1).toNatClampNeg) (xs (y + 2).toNatClampNeg) = some (3, f, V, T, S, hs) by unfold FL_getFrom; rw [e1]; rfl) e2 (by decide)
theorem LC12 (hB : zBR N V S hs Mo) (hN : N < 50000) (hK : zK K N (y + 4)) (h1 : az_in (y + 1) L = true) : F_law_C12 K xs L V T S hs Mo f y = some 1 := by
  obtain ⟨⟨n, z, e, t, u, hR, hI, hH, hQ, he, hNN⟩, -⟩ := id hB
  unfold F_law_C12
  rw [if_pos h1]
  rcases q_changedSince (V := V) (M := Mo) (x := (xs (y + 1).toNatClampNeg)) hR hI with ⟨r, b, e1, e2, e3⟩ | ⟨r, b, e1, e2, e3⟩ | ⟨r, b, e1, e2, e3⟩
  · obtain rfl := e3 rfl
    exact tq0 hB hK (show FL_changedSince V T S hs f (xs (y + 1).toNatClampNeg) = some (0, vp_updL f 0 b.toInt64, V, T, S, hs) by unfold FL_changedSince; rw [e1]; rfl) e2
  · exact tq1 hB hK (show FL_changedSince V T S hs f (xs (y + 1).toNatClampNeg) = some (1, f, V, T, S, hs) by unfold FL_changedSince; rw [e1]; rfl) e2 (by decide)
  · exact tq1 hB hK (show FL_changedSince V T S hs f (xs (y + 1).toNatClampNeg) = some (2, f, V, T, S, hs) by unfold FL_changedSince; rw [e1]; rfl) e2 (by decide)
theorem LC13 (hB : zBR N V S hs Mo) (hN : N < 50000) (hK : zK K N (y + 4)) (h1 : az_in (y + 1) L = true) (h2 : az_in (y + 2) L = true) : F_law_C13 K xs L V T S hs Mo f y = some 1 := by
  obtain ⟨⟨n, z, e, t, u, hR, hI, hH, hQ, he, hNN⟩, -⟩ := id hB
  unfold F_law_C13
  rw [if_pos h1, if_pos h2]
  rcases q_difference (V := V) (M := Mo) (x := (xs (y + 1).toNatClampNeg)) (x2 := (xs (y + 2).toNatClampNeg)) hR hI with ⟨r, b, e1, e2, e3⟩ | ⟨r, b, e1, e2, e3⟩ | ⟨r, b, e1, e2, e3⟩
  · obtain rfl := e3 rfl
    exact tq0 hB hK (show FL_difference V T S hs f (xs (y + 1).toNatClampNeg) (xs (y + 2).toNatClampNeg) = some (0, vp_updL f 0 b.toInt64, V, T, S, hs) by unfold FL_difference; rw [e1]; rfl) e2
  · exact tq1 hB hK (show FL_difference V T S hs f (xs (y + 1).toNatClampNeg) (xs (y + 2).toNatClampNeg) = some (1, f, V, T, S, hs) by unfold FL_difference; rw [e1]; rfl) e2 (by decide)
  · exact tq1 hB hK (show FL_difference V T S hs f (xs (y + 1).toNatClampNeg) (xs (y + 2).toNatClampNeg) = some (2, f, V, T, S, hs) by unfold FL_difference; rw [e1]; rfl) e2 (by decide)
theorem LC14 (hB : zBR N V S hs Mo) (hN : N < 50000) (hK : zK K N (y + 4)) (h1 : az_in (y + 1) L = true) : F_law_C14 K xs L V T S hs Mo f y = some 1 := by
  obtain ⟨⟨n, z, e, t, u, hR, hI, hH, hQ, he, hNN⟩, -⟩ := id hB
  unfold F_law_C14
  rw [if_pos h1]
  rcases q_ownBlocks (V := V) (M := Mo) (x := (xs (y + 1).toNatClampNeg)) hR hI with ⟨r, b, e1, e2, e3⟩ | ⟨r, b, e1, e2, e3⟩ | ⟨r, b, e1, e2, e3⟩
  · obtain rfl := e3 rfl
    exact tq0 hB hK (show FL_ownBlocks V T S hs f (xs (y + 1).toNatClampNeg) = some (0, vp_updL f 0 b.toInt64, V, T, S, hs) by unfold FL_ownBlocks; rw [e1]; rfl) e2
  · exact tq1 hB hK (show FL_ownBlocks V T S hs f (xs (y + 1).toNatClampNeg) = some (1, f, V, T, S, hs) by unfold FL_ownBlocks; rw [e1]; rfl) e2 (by decide)
  · exact tq1 hB hK (show FL_ownBlocks V T S hs f (xs (y + 1).toNatClampNeg) = some (2, f, V, T, S, hs) by unfold FL_ownBlocks; rw [e1]; rfl) e2 (by decide)
theorem LC20 (hB : zBR N V S hs Mo) (hN : N < 50000) (hK : zK K N (y + 4)) (h1 : az_in (y + 1) L = true) (h2 : az_in (y + 2) L = true) : F_law_C20 K xs L V T S hs Mo f y = some 1 := by
  obtain ⟨⟨n, z, e, t, u, hR, hI, hH, hQ, he, hNN⟩, -⟩ := id hB
  unfold F_law_C20
  rw [if_pos h1, if_pos h2]
  rcases q_read (V := V) (M := Mo) (x := (xs (y + 1).toNatClampNeg)) (x2 := (xs (y + 2).toNatClampNeg)) hR hI hH hQ with ⟨r, b, e1, e2, e3⟩ | ⟨r, b, e1, e2, e3⟩ | ⟨r, b, e1, e2, e3⟩
  · obtain rfl := e3 rfl
    exact tq0 hB hK (show FL_read V T S hs f (xs (y + 1).toNatClampNeg) (xs (y + 2).toNatClampNeg) = some (0, vp_updL f 0 b.toInt64, V, T, S, hs) by unfold FL_read; rw [e1]; rfl) e2
  · exact tq1 hB hK (show FL_read V T S hs f (xs (y + 1).toNatClampNeg) (xs (y + 2).toNatClampNeg) = some (1, f, V, T, S, hs) by unfold FL_read; rw [e1]; rfl) e2 (by decide)
  · exact tq1 hB hK (show FL_read V T S hs f (xs (y + 1).toNatClampNeg) (xs (y + 2).toNatClampNeg) = some (2, f, V, T, S, hs) by unfold FL_read; rw [e1]; rfl) e2 (by decide)
theorem LC21 (hB : zBR N V S hs Mo) (hN : N < 50000) (hK : zK K N (y + 4)) (h1 : az_in (y + 1) L = true) (h2 : az_in (y + 2) L = true) : F_law_C21 K xs L V T S hs Mo f y = some 1 := by
  obtain ⟨⟨n, z, e, t, u, hR, hI, hH, hQ, he, hNN⟩, -⟩ := id hB
  unfold F_law_C21
  rw [if_pos h1, if_pos h2]
  rcases q_reader (V := V) (M := Mo) (x := (xs (y + 1).toNatClampNeg)) (x2 := (xs (y + 2).toNatClampNeg)) hR hI hH hQ with ⟨r, b, e1, e2, e3⟩ | ⟨r, b, e1, e2, e3⟩ | ⟨r, b, e1, e2, e3⟩
  · obtain rfl := e3 rfl
    exact tq0 hB hK (show FL_reader V T S hs f (xs (y + 1).toNatClampNeg) (xs (y + 2).toNatClampNeg) = some (0, vp_updL f 0 b.toInt64, V, T, S, hs) by unfold FL_reader; rw [e1]; rfl) e2
  · exact tq1 hB hK (show FL_reader V T S hs f (xs (y + 1).toNatClampNeg) (xs (y + 2).toNatClampNeg) = some (1, f, V, T, S, hs) by unfold FL_reader; rw [e1]; rfl) e2 (by decide)
  · exact tq1 hB hK (show FL_reader V T S hs f (xs (y + 1).toNatClampNeg) (xs (y + 2).toNatClampNeg) = some (2, f, V, T, S, hs) by unfold FL_reader; rw [e1]; rfl) e2 (by decide)
theorem LC24 (hB : zBR N V S hs Mo) (hN : N < 50000) (hK : zK K N (y + 4)) (h1 : az_in (y + 1) L = true) : F_law_C24 K xs L V T S hs Mo f y = some 1 := by
  obtain ⟨⟨n, z, e, t, u, hR, hI, hH, hQ, he, hNN⟩, -⟩ := id hB
  unfold F_law_C24
  rw [if_pos h1]
  rcases q_recWithout (V := V) (M := Mo) (x := (xs (y + 1).toNatClampNeg)) hR hI hH with ⟨r, b, e1, e2, e3⟩ | ⟨r, b, e1, e2, e3⟩
  · obtain rfl := e3 rfl
    exact tq0 hB hK (show FL_reclaimableWithout V T S hs f (xs (y + 1).toNatClampNeg) = some (0, vp_updL f 0 b.toInt64, V, T, S, hs) by unfold FL_reclaimableWithout; rw [e1]; rfl) e2
  · exact tq1 hB hK (show FL_reclaimableWithout V T S hs f (xs (y + 1).toNatClampNeg) = some (1, f, V, T, S, hs) by unfold FL_reclaimableWithout; rw [e1]; rfl) e2 (by decide)
theorem LC28 (hB : zBR N V S hs Mo) (hN : N < 50000) (hK : zK K N (y + 4)) (h1 : az_in (y + 1) L = true) : F_law_C28 K xs L V T S hs Mo f y = some 1 := by
  obtain ⟨⟨n, z, e, t, u, hR, hI, hH, hQ, he, hNN⟩, -⟩ := id hB
  unfold F_law_C28
  rw [if_pos h1]
  rcases q_count (V := V) (M := Mo) (x := (xs (y + 1).toNatClampNeg)) hR with ⟨r, b, e1, e2, e3⟩ | ⟨r, b, e1, e2, e3⟩
  · obtain rfl := e3 rfl
    exact tq0 hB hK (show FL_count V T S hs f (xs (y + 1).toNatClampNeg) = some (0, vp_updL f 0 b.toInt64, V, T, S, hs) by unfold FL_count; rw [e1]; rfl) e2
  · exact tq1 hB hK (show FL_count V T S hs f (xs (y + 1).toNatClampNeg) = some (1, f, V, T, S, hs) by unfold FL_count; rw [e1]; rfl) e2 (by decide)
theorem LC29 (hB : zBR N V S hs Mo) (hN : N < 50000) (hK : zK K N (y + 4)) (h1 : az_in (y + 1) L = true) : F_law_C29 K xs L V T S hs Mo f y = some 1 := by
  obtain ⟨⟨n, z, e, t, u, hR, hI, hH, hQ, he, hNN⟩, -⟩ := id hB
  unfold F_law_C29
  rw [if_pos h1]
  rcases q_blocks (V := V) (M := Mo) (x := (xs (y + 1).toNatClampNeg)) hR hI with ⟨r, b, e1, e2, e3⟩ | ⟨r, b, e1, e2, e3⟩
  · obtain rfl := e3 rfl
    exact tq0 hB hK (show FL_blocks V T S hs f (xs (y + 1).toNatClampNeg) = some (0, vp_updL f 0 b.toInt64, V, T, S, hs) by unfold FL_blocks; rw [e1]; rfl) e2
  · exact tq1 hB hK (show FL_blocks V T S hs f (xs (y + 1).toNatClampNeg) = some (1, f, V, T, S, hs) by unfold FL_blocks; rw [e1]; rfl) e2 (by decide)
theorem LC30 (hB : zBR N V S hs Mo) (hN : N < 50000) (hK : zK K N (y + 4)) (h1 : az_in (y + 1) L = true) (h2 : az_in (y + 2) L = true) : F_law_C30 K xs L V T S hs Mo f y = some 1 := by
  obtain ⟨⟨n, z, e, t, u, hR, hI, hH, hQ, he, hNN⟩, -⟩ := id hB
  unfold F_law_C30
  rw [if_pos h1, if_pos h2]
  rcases q_segment (V := V) (M := Mo) (x := (xs (y + 1).toNatClampNeg)) (x2 := (xs (y + 2).toNatClampNeg)) hR hI with ⟨r, b, e1, e2, e3⟩ | ⟨r, b, e1, e2, e3⟩ | ⟨r, b, e1, e2, e3⟩
  · obtain rfl := e3 rfl
    exact tq0 hB hK (show FL_segment V T S hs f (xs (y + 1).toNatClampNeg) (xs (y + 2).toNatClampNeg) = some (0, vp_updL f 0 b.toInt64, V, T, S, hs) by unfold FL_segment; rw [e1]; rfl) e2
  · exact tq1 hB hK (show FL_segment V T S hs f (xs (y + 1).toNatClampNeg) (xs (y + 2).toNatClampNeg) = some (1, f, V, T, S, hs) by unfold FL_segment; rw [e1]; rfl) e2 (by decide)
  · exact tq1 hB hK (show FL_segment V T S hs f (xs (y + 1).toNatClampNeg) (xs (y + 2).toNatClampNeg) = some (2, f, V, T, S, hs) by unfold FL_segment; rw [e1]; rfl) e2 (by decide)
theorem LC32 (hB : zBR N V S hs Mo) (hN : N < 50000) (hK : zK K N (y + 4)) (h1 : az_in (y + 1) L = true) (h2 : az_in (y + 2) L = true) : F_law_C32 K xs L V T S hs Mo f y = some 1 := by
  obtain ⟨⟨n, z, e, t, u, hR, hI, hH, hQ, he, hNN⟩, -⟩ := id hB
  unfold F_law_C32
  rw [if_pos h1, if_pos h2]
  rcases q_block (V := V) (M := Mo) (x := (xs (y + 1).toNatClampNeg)) (x2 := (xs (y + 2).toNatClampNeg)) hR hI with ⟨r, b, e1, e2, e3⟩ | ⟨r, b, e1, e2, e3⟩ | ⟨r, b, e1, e2, e3⟩
  · obtain rfl := e3 rfl
    exact tq0 hB hK (show FL_block V T S hs f (xs (y + 1).toNatClampNeg) (xs (y + 2).toNatClampNeg) = some (0, vp_updL f 0 b.toInt64, V, T, S, hs) by unfold FL_block; rw [e1]; rfl) e2
  · exact tq1 hB hK (show FL_block V T S hs f (xs (y + 1).toNatClampNeg) (xs (y + 2).toNatClampNeg) = some (1, f, V, T, S, hs) by unfold FL_block; rw [e1]; rfl) e2 (by decide)
  · exact tq1 hB hK (show FL_block V T S hs f (xs (y + 1).toNatClampNeg) (xs (y + 2).toNatClampNeg) = some (2, f, V, T, S, hs) by unfold FL_block; rw [e1]; rfl) e2 (by decide)
theorem LC33 (hB : zBR N V S hs Mo) (hN : N < 50000) (hK : zK K N (y + 4)) (h1 : az_in (y + 1) L = true) : F_law_C33 K xs L V T S hs Mo f y = some 1 := by
  obtain ⟨⟨n, z, e, t, u, hR, hI, hH, hQ, he, hNN⟩, -⟩ := id hB
  unfold F_law_C33
  rw [if_pos h1]
  rcases q_neededBy (V := V) (M := Mo) (x := (xs (y + 1).toNatClampNeg)) hR hI hH hQ with ⟨r, b, e1, e2, e3⟩ | ⟨r, b, e1, e2, e3⟩
  · obtain rfl := e3 rfl
    exact tq0 hB hK (show FL_neededBy V T S hs f (xs (y + 1).toNatClampNeg) = some (0, vp_updL f 0 b.toInt64, V, T, S, hs) by unfold FL_neededBy; rw [e1]; rfl) e2
  · exact tq1 hB hK (show FL_neededBy V T S hs f (xs (y + 1).toNatClampNeg) = some (1, f, V, T, S, hs) by unfold FL_neededBy; rw [e1]; rfl) e2 (by decide)
theorem LC34 (hB : zBR N V S hs Mo) (hN : N < 50000) (hK : zK K N (y + 4)) (h1 : az_in (y + 1) L = true) : F_law_C34 K xs L V T S hs Mo f y = some 1 := by
  obtain ⟨⟨n, z, e, t, u, hR, hI, hH, hQ, he, hNN⟩, -⟩ := id hB
  unfold F_law_C34
  rw [if_pos h1]
  rcases q_waiting (V := V) (M := Mo) (x := (xs (y + 1).toNatClampNeg)) hR hI with ⟨r, b, e1, e2, e3⟩ | ⟨r, b, e1, e2, e3⟩
  · obtain rfl := e3 rfl
    exact tq0 hB hK (show FL_waiting V T S hs f (xs (y + 1).toNatClampNeg) = some (0, vp_updL f 0 b.toInt64, V, T, S, hs) by unfold FL_waiting; rw [e1]; rfl) e2
  · exact tq1 hB hK (show FL_waiting V T S hs f (xs (y + 1).toNatClampNeg) = some (1, f, V, T, S, hs) by unfold FL_waiting; rw [e1]; rfl) e2 (by decide)
theorem LC37 (hB : zBR N V S hs Mo) (hN : N < 50000) (hK : zK K N (y + 4)) (h1 : az_in (y + 1) L = true) : F_law_C37 K xs L V T S hs Mo f y = some 1 := by
  obtain ⟨⟨n, z, e, t, u, hR, hI, hH, hQ, he, hNN⟩, -⟩ := id hB
  unfold F_law_C37
  rw [if_pos h1]
  rcases q_advToErase (V := V) (M := Mo) (x := (xs (y + 1).toNatClampNeg)) hR hI with ⟨r, b, e1, e2, e3⟩ | ⟨r, b, e1, e2, e3⟩ | ⟨r, b, e1, e2, e3⟩
  · obtain rfl := e3 rfl
    exact tq0 hB hK (show FL_advancesToErase V T S hs f (xs (y + 1).toNatClampNeg) = some (0, vp_updL f 0 b.toInt64, V, T, S, hs) by unfold FL_advancesToErase; rw [e1]; rfl) e2
  · exact tq1 hB hK (show FL_advancesToErase V T S hs f (xs (y + 1).toNatClampNeg) = some (1, f, V, T, S, hs) by unfold FL_advancesToErase; rw [e1]; rfl) e2 (by decide)
  · exact tq1 hB hK (show FL_advancesToErase V T S hs f (xs (y + 1).toNatClampNeg) = some (2, f, V, T, S, hs) by unfold FL_advancesToErase; rw [e1]; rfl) e2 (by decide)
theorem LC39 (hB : zBR N V S hs Mo) (hN : N < 50000) (hK : zK K N (y + 4)) (h1 : az_in (y + 1) L = true) : F_law_C39 K xs L V T S hs Mo f y = some 1 := by
  obtain ⟨⟨n, z, e, t, u, hR, hI, hH, hQ, he, hNN⟩, -⟩ := id hB
  unfold F_law_C39
  rw [if_pos h1]
  rcases q_victim (V := V) (M := Mo) (x := (xs (y + 1).toNatClampNeg)) hR hI with ⟨r, b, e1, e2, e3⟩ | ⟨r, b, e1, e2, e3⟩ | ⟨r, b, e1, e2, e3⟩
  · obtain rfl := e3 rfl
    exact tq0 hB hK (show FL_victim V T S hs f (xs (y + 1).toNatClampNeg) = some (0, vp_updL f 0 b.toInt64, V, T, S, hs) by unfold FL_victim; rw [e1]; rfl) e2
  · exact tq1 hB hK (show FL_victim V T S hs f (xs (y + 1).toNatClampNeg) = some (1, f, V, T, S, hs) by unfold FL_victim; rw [e1]; rfl) e2 (by decide)
  · exact tq1 hB hK (show FL_victim V T S hs f (xs (y + 1).toNatClampNeg) = some (2, f, V, T, S, hs) by unfold FL_victim; rw [e1]; rfl) e2 (by decide)
theorem LC31 (hB : zBR N V S hs Mo) (hN : N < 50000) (hK : zK K N (y + 4)) (h1 : az_in (y + 1) L = true) (h2 : az_in (y + 2) L = true) : F_law_C31 K xs L V T S hs Mo f y = some 1 := by
  obtain ⟨⟨n, z, e, t, u, hR, hI, hH, hQ, he, hNN⟩, -⟩ := id hB
  unfold F_law_C31
  rw [if_pos h1, if_pos h2]
  refine zite (fun _ => ?_) (fun _ => ?_)
  · rcases q_meanAge (V := V) (M := Mo) (x := (xs (y + 1).toNatClampNeg)) (x2 := 0) hR hI with ⟨r, b, e1, e2, e3⟩ | ⟨r, b, e1, e2, e3⟩ | ⟨r, b, e1, e2, e3⟩
    · obtain rfl := e3 rfl
      exact tq0 hB hK (show FL_meanAge V T S hs f (xs (y + 1).toNatClampNeg) 0 = some (0, vp_updL f 0 b.toInt64, V, T, S, hs) by unfold FL_meanAge; rw [e1]; rfl) e2
    · exact tq1 hB hK (show FL_meanAge V T S hs f (xs (y + 1).toNatClampNeg) 0 = some (1, f, V, T, S, hs) by unfold FL_meanAge; rw [e1]; rfl) e2 (by decide)
    · exact tq1 hB hK (show FL_meanAge V T S hs f (xs (y + 1).toNatClampNeg) 0 = some (2, f, V, T, S, hs) by unfold FL_meanAge; rw [e1]; rfl) e2 (by decide)
  · rcases q_meanAge (V := V) (M := Mo) (x := (xs (y + 1).toNatClampNeg)) (x2 := 1) hR hI with ⟨r, b, e1, e2, e3⟩ | ⟨r, b, e1, e2, e3⟩ | ⟨r, b, e1, e2, e3⟩
    · obtain rfl := e3 rfl
      exact tq0 hB hK (show FL_meanAge V T S hs f (xs (y + 1).toNatClampNeg) 1 = some (0, vp_updL f 0 b.toInt64, V, T, S, hs) by unfold FL_meanAge; rw [e1]; rfl) e2
    · exact tq1 hB hK (show FL_meanAge V T S hs f (xs (y + 1).toNatClampNeg) 1 = some (1, f, V, T, S, hs) by unfold FL_meanAge; rw [e1]; rfl) e2 (by decide)
    · exact tq1 hB hK (show FL_meanAge V T S hs f (xs (y + 1).toNatClampNeg) 1 = some (2, f, V, T, S, hs) by unfold FL_meanAge; rw [e1]; rfl) e2 (by decide)
theorem LC43 (hB : zBR N V S hs Mo) (hN : N < 50000) (hK : zK K N (y + 4)) (h1 : az_in (y + 1) L = true) : F_law_C43 K xs L V T S hs Mo f y = some 1 := by
  obtain ⟨⟨n, z, e, t, u, hR, hI, hH, hQ, he, hNN⟩, -⟩ := id hB
  unfold F_law_C43
  rw [if_pos h1]
  refine zite (fun _ => ?_) (fun _ => ?_)
  · rcases q_ampl (V := V) (M := Mo) (x := 0) hR hNN hN with ⟨r, b, e1, e2, e3⟩ | ⟨r, b, e1, e2, e3⟩
    · obtain rfl := e3 rfl
      exact tq0 hB hK (show FL_amplification V T S hs f 0 = some (0, vp_updL f 0 b.toInt64, V, T, S, hs) by unfold FL_amplification; rw [e1]; rfl) e2
    · exact tq1 hB hK (show FL_amplification V T S hs f 0 = some (1, f, V, T, S, hs) by unfold FL_amplification; rw [e1]; rfl) e2 (by decide)
  · rcases q_ampl (V := V) (M := Mo) (x := 1) hR hNN hN with ⟨r, b, e1, e2, e3⟩ | ⟨r, b, e1, e2, e3⟩
    · obtain rfl := e3 rfl
      exact tq0 hB hK (show FL_amplification V T S hs f 1 = some (0, vp_updL f 0 b.toInt64, V, T, S, hs) by unfold FL_amplification; rw [e1]; rfl) e2
    · exact tq1 hB hK (show FL_amplification V T S hs f 1 = some (1, f, V, T, S, hs) by unfold FL_amplification; rw [e1]; rfl) e2 (by decide)
theorem LC5 (hB : zBR N V S hs Mo) (hN : N < 50000) (hK : zK K N (y + 4))  : F_law_C5 K xs L V T S hs Mo f y = some 1 := by
  obtain ⟨⟨n, z, e, t, u, hR, hI, hH, hQ, he, hNN⟩, -⟩ := id hB
  unfold F_law_C5
  exact tn hB (n_room hR hI) hK
theorem LC22 (hB : zBR N V S hs Mo) (hN : N < 50000) (hK : zK K N (y + 4))  : F_law_C22 K xs L V T S hs Mo f y = some 1 := by
  obtain ⟨⟨n, z, e, t, u, hR, hI, hH, hQ, he, hNN⟩, -⟩ := id hB
  unfold F_law_C22
  exact tn hB (n_blockers hR hH) hK
theorem LC25 (hB : zBR N V S hs Mo) (hN : N < 50000) (hK : zK K N (y + 4))  : F_law_C25 K xs L V T S hs Mo f y = some 1 := by
  obtain ⟨⟨n, z, e, t, u, hR, hI, hH, hQ, he, hNN⟩, -⟩ := id hB
  unfold F_law_C25
  exact tn hB (n_costliest hR hI hH) hK
theorem LC36 (hB : zBR N V S hs Mo) (hN : N < 50000) (hK : zK K N (y + 4))  : F_law_C36 K xs L V T S hs Mo f y = some 1 := by
  obtain ⟨⟨n, z, e, t, u, hR, hI, hH, hQ, he, hNN⟩, -⟩ := id hB
  unfold F_law_C36
  exact tn hB (n_wouldErase hR hI) hK
theorem LC41 (hB : zBR N V S hs Mo) (hN : N < 50000) (hK : zK K N (y + 4))  : F_law_C41 K xs L V T S hs Mo f y = some 1 := by
  obtain ⟨⟨n, z, e, t, u, hR, hI, hH, hQ, he, hNN⟩, -⟩ := id hB
  unfold F_law_C41
  exact tn hB (n_regainable hR hI) hK
theorem LC42 (hB : zBR N V S hs Mo) (hN : N < 50000) (hK : zK K N (y + 4))  : F_law_C42 K xs L V T S hs Mo f y = some 1 := by
  obtain ⟨⟨n, z, e, t, u, hR, hI, hH, hQ, he, hNN⟩, -⟩ := id hB
  unfold F_law_C42
  exact tn hB (n_regainableNow hR hI) hK
theorem LC44 (hB : zBR N V S hs Mo) (hN : N < 50000) (hK : zK K N (y + 4))  : F_law_C44 K xs L V T S hs Mo f y = some 1 := by
  obtain ⟨⟨n, z, e, t, u, hR, hI, hH, hQ, he, hNN⟩, -⟩ := id hB
  unfold F_law_C44
  exact tn hB (n_wearGap hR hI) hK
theorem LC1 (hB : zBR N V S hs Mo) (hN : N < 50000) (hK : zK K N (y + 4)) (h1 : az_in (y + 1) L = true) (h2 : az_in (y + 2) L = true) : F_law_C1 K xs L V T S hs Mo f y = some 1 := by
  unfold F_law_C1
  rw [if_pos h1, if_pos h2]
  rcases x_write (T := T) (x := (xs (y + 1).toNatClampNeg)) (x2 := (xs (y + 2).toNatClampNeg)) hB hN with ⟨k, c, hkc, e1, e2⟩ | ⟨r, S', hs', k', q', a', v0, v2, v3, v5, v6, v7, v8, v9, v15, v16, e1, e2, e3, e4, e5⟩
  · rcases hkc with ⟨rfl, rfl⟩ | ⟨rfl, rfl⟩
    · exact tg1 (β := Int32 × (Nat → Int32) × (Nat → Int32) × (Nat → Int32)) (fun p => p.1) (fun p => va_up (va_up (va_up Mo 0 p.2.1) 1 p.2.2.1) 2 p.2.2.2) (show FL_write V T S hs f (xs (y + 1).toNatClampNeg) (xs (y + 2).toNatClampNeg) = some (1, f, (va_up (va_up (va_up (va_up (va_up (va_up (va_up (va_up (va_up (va_up V 0 (V 0)) 2 (V 2)) 3 (V 3)) 5 (V 5)) 6 (V 6)) 7 (V 7)) 8 (V 8)) 9 (V 9)) 15 (V 15)) 16 (V 16)), T, S, hs) by unfold FL_write; rw [e1]; rfl) e2 (by decide) (show upd (Mo 2) 1 (1 : Int32) 1 = 1 from zupd_s) (hK _ _ _ _ _ _ (zBRr hB 1 (zc17 rfl rfl rfl rfl rfl rfl rfl rfl rfl rfl rfl rfl rfl rfl rfl rfl rfl)))
    · exact tg1 (β := Int32 × (Nat → Int32) × (Nat → Int32) × (Nat → Int32)) (fun p => p.1) (fun p => va_up (va_up (va_up Mo 0 p.2.1) 1 p.2.2.1) 2 p.2.2.2) (show FL_write V T S hs f (xs (y + 1).toNatClampNeg) (xs (y + 2).toNatClampNeg) = some (2, f, (va_up (va_up (va_up (va_up (va_up (va_up (va_up (va_up (va_up (va_up V 0 (V 0)) 2 (V 2)) 3 (V 3)) 5 (V 5)) 6 (V 6)) 7 (V 7)) 8 (V 8)) 9 (V 9)) 15 (V 15)) 16 (V 16)), T, S, hs) by unfold FL_write; rw [e1]; rfl) e2 (by decide) (show upd (Mo 2) 1 (2 : Int32) 1 = 2 from zupd_s) (hK _ _ _ _ _ _ (zBRr hB 2 (zc17 rfl rfl rfl rfl rfl rfl rfl rfl rfl rfl rfl rfl rfl rfl rfl rfl rfl)))
  · exact tg0 (β := Int32 × (Nat → Int32) × (Nat → Int32) × (Nat → Int32)) (fun p => p.1) (fun p => va_up (va_up (va_up Mo 0 p.2.1) 1 p.2.2.1) 2 p.2.2.2) (show FL_write V T S hs f (xs (y + 1).toNatClampNeg) (xs (y + 2).toNatClampNeg) = some (0, vp_updL f 0 r.toInt64, (va_up (va_up (va_up (va_up (va_up (va_up (va_up (va_up (va_up (va_up V 0 v0) 2 v2) 3 v3) 5 v5) 6 v6) 7 v7) 8 v8) 9 v9) 15 v15) 16 v16), T, S', hs') by unfold FL_write; rw [e1]; rfl) e2 e3 (fun _ => hK _ _ _ _ _ _ (And.intro e4 e5))
theorem LC2 (hB : zBR N V S hs Mo) (hN : N < 50000) (hK : zK K N (y + 4)) (h1 : az_in (y + 1) L = true) : F_law_C2 K xs L V T S hs Mo f y = some 1 := by
  unfold F_law_C2
  rw [if_pos h1]
  rcases x_delete (T := T) (x := (xs (y + 1).toNatClampNeg)) hB with ⟨k, c, hkc, e1, e2⟩ | ⟨r, S', hs', k', q', a', v5, v9, v15, e1, e2, e3, e4, e5⟩
  · rcases hkc with ⟨rfl, rfl⟩ | ⟨rfl, rfl⟩
    · exact tg1 (β := Int32 × (Nat → Int32) × (Nat → Int32) × (Nat → Int32)) (fun p => p.1) (fun p => va_up (va_up (va_up Mo 0 p.2.1) 1 p.2.2.1) 2 p.2.2.2) (show FL_delete V T S hs f (xs (y + 1).toNatClampNeg) = some (1, f, (va_up (va_up (va_up V 5 (V 5)) 9 (V 9)) 15 (V 15)), T, S, hs) by unfold FL_delete; rw [e1]; rfl) e2 (by decide) (show upd (Mo 2) 1 (1 : Int32) 1 = 1 from zupd_s) (hK _ _ _ _ _ _ (zBRr hB 1 (zc17 rfl rfl rfl rfl rfl rfl rfl rfl rfl rfl rfl rfl rfl rfl rfl rfl rfl)))
    · exact tg1 (β := Int32 × (Nat → Int32) × (Nat → Int32) × (Nat → Int32)) (fun p => p.1) (fun p => va_up (va_up (va_up Mo 0 p.2.1) 1 p.2.2.1) 2 p.2.2.2) (show FL_delete V T S hs f (xs (y + 1).toNatClampNeg) = some (2, f, (va_up (va_up (va_up V 5 (V 5)) 9 (V 9)) 15 (V 15)), T, S, hs) by unfold FL_delete; rw [e1]; rfl) e2 (by decide) (show upd (Mo 2) 1 (2 : Int32) 1 = 2 from zupd_s) (hK _ _ _ _ _ _ (zBRr hB 2 (zc17 rfl rfl rfl rfl rfl rfl rfl rfl rfl rfl rfl rfl rfl rfl rfl rfl rfl)))
  · exact tg0 (β := Int32 × (Nat → Int32) × (Nat → Int32) × (Nat → Int32)) (fun p => p.1) (fun p => va_up (va_up (va_up Mo 0 p.2.1) 1 p.2.2.1) 2 p.2.2.2) (show FL_delete V T S hs f (xs (y + 1).toNatClampNeg) = some (0, vp_updL f 0 r.toInt64, (va_up (va_up (va_up V 5 v5) 9 v9) 15 v15), T, S', hs') by unfold FL_delete; rw [e1]; rfl) e2 e3 (fun _ => hK _ _ _ _ _ _ (And.intro e4 e5))
theorem LC8 (hB : zBR N V S hs Mo) (hN : N < 50000) (hK : zK K N (y + 4)) (h1 : az_in (y + 1) L = true) : F_law_C8 K xs L V T S hs Mo f y = some 1 := by
  unfold F_law_C8
  rw [if_pos h1]
  rcases x_take (T := T) (x := (xs (y + 1).toNatClampNeg)) hB with ⟨k, c, hkc, e1, e2⟩ | ⟨r, S', hs', k', q', a', v13, v14, e1, e2, e3, e4, e5⟩
  · rcases hkc with ⟨rfl, rfl⟩ | ⟨rfl, rfl⟩
    · exact tg1 (β := Int32 × (Nat → Int32) × (Nat → Int32) × (Nat → Int32)) (fun p => p.1) (fun p => va_up (va_up (va_up Mo 0 p.2.1) 1 p.2.2.1) 2 p.2.2.2) (show FL_takeSnapshot V T S hs f (xs (y + 1).toNatClampNeg) = some (1, f, (va_up (va_up V 13 (V 13)) 14 (V 14)), T, S, hs) by unfold FL_takeSnapshot; rw [e1]; rfl) e2 (by decide) (show upd (Mo 2) 1 (1 : Int32) 1 = 1 from zupd_s) (hK _ _ _ _ _ _ (zBRr hB 1 (zc17 rfl rfl rfl rfl rfl rfl rfl rfl rfl rfl rfl rfl rfl rfl rfl rfl rfl)))
    · exact tg1 (β := Int32 × (Nat → Int32) × (Nat → Int32) × (Nat → Int32)) (fun p => p.1) (fun p => va_up (va_up (va_up Mo 0 p.2.1) 1 p.2.2.1) 2 p.2.2.2) (show FL_takeSnapshot V T S hs f (xs (y + 1).toNatClampNeg) = some (2, f, (va_up (va_up V 13 (V 13)) 14 (V 14)), T, S, hs) by unfold FL_takeSnapshot; rw [e1]; rfl) e2 (by decide) (show upd (Mo 2) 1 (2 : Int32) 1 = 2 from zupd_s) (hK _ _ _ _ _ _ (zBRr hB 2 (zc17 rfl rfl rfl rfl rfl rfl rfl rfl rfl rfl rfl rfl rfl rfl rfl rfl rfl)))
  · exact tg0 (β := Int32 × (Nat → Int32) × (Nat → Int32) × (Nat → Int32)) (fun p => p.1) (fun p => va_up (va_up (va_up Mo 0 p.2.1) 1 p.2.2.1) 2 p.2.2.2) (show FL_takeSnapshot V T S hs f (xs (y + 1).toNatClampNeg) = some (0, vp_updL f 0 r.toInt64, (va_up (va_up V 13 v13) 14 v14), T, S', hs') by unfold FL_takeSnapshot; rw [e1]; rfl) e2 e3 (fun _ => hK _ _ _ _ _ _ (And.intro e4 e5))
theorem LC9 (hB : zBR N V S hs Mo) (hN : N < 50000) (hK : zK K N (y + 4)) (h1 : az_in (y + 1) L = true) : F_law_C9 K xs L V T S hs Mo f y = some 1 := by
  unfold F_law_C9
  rw [if_pos h1]
  rcases x_drop (T := T) (x := (xs (y + 1).toNatClampNeg)) hB with ⟨k, c, hkc, e1, e2⟩ | ⟨r, S', hs', k', q', a', v5, v9, v13, v14, e1, e2, e3, e4, e5⟩
  · rcases hkc with ⟨rfl, rfl⟩ | ⟨rfl, rfl⟩
    · exact tg1 (β := Int32 × (Nat → Int32) × (Nat → Int32) × (Nat → Int32)) (fun p => p.1) (fun p => va_up (va_up (va_up Mo 0 p.2.1) 1 p.2.2.1) 2 p.2.2.2) (show FL_dropSnapshot V T S hs f (xs (y + 1).toNatClampNeg) = some (1, f, (va_up (va_up (va_up (va_up V 5 (V 5)) 9 (V 9)) 13 (V 13)) 14 (V 14)), T, S, hs) by unfold FL_dropSnapshot; rw [e1]; rfl) e2 (by decide) (show upd (Mo 2) 1 (1 : Int32) 1 = 1 from zupd_s) (hK _ _ _ _ _ _ (zBRr hB 1 (zc17 rfl rfl rfl rfl rfl rfl rfl rfl rfl rfl rfl rfl rfl rfl rfl rfl rfl)))
    · exact tg1 (β := Int32 × (Nat → Int32) × (Nat → Int32) × (Nat → Int32)) (fun p => p.1) (fun p => va_up (va_up (va_up Mo 0 p.2.1) 1 p.2.2.1) 2 p.2.2.2) (show FL_dropSnapshot V T S hs f (xs (y + 1).toNatClampNeg) = some (2, f, (va_up (va_up (va_up (va_up V 5 (V 5)) 9 (V 9)) 13 (V 13)) 14 (V 14)), T, S, hs) by unfold FL_dropSnapshot; rw [e1]; rfl) e2 (by decide) (show upd (Mo 2) 1 (2 : Int32) 1 = 2 from zupd_s) (hK _ _ _ _ _ _ (zBRr hB 2 (zc17 rfl rfl rfl rfl rfl rfl rfl rfl rfl rfl rfl rfl rfl rfl rfl rfl rfl)))
  · exact tg0 (β := Int32 × (Nat → Int32) × (Nat → Int32) × (Nat → Int32)) (fun p => p.1) (fun p => va_up (va_up (va_up Mo 0 p.2.1) 1 p.2.2.1) 2 p.2.2.2) (show FL_dropSnapshot V T S hs f (xs (y + 1).toNatClampNeg) = some (0, vp_updL f 0 r.toInt64, (va_up (va_up (va_up (va_up V 5 v5) 9 v9) 13 v13) 14 v14), T, S', hs') by unfold FL_dropSnapshot; rw [e1]; rfl) e2 e3 (fun _ => hK _ _ _ _ _ _ (And.intro e4 e5))
theorem LC10 (hB : zBR N V S hs Mo) (hN : N < 50000) (hK : zK K N (y + 4)) (h1 : az_in (y + 1) L = true) : F_law_C10 K xs L V T S hs Mo f y = some 1 := by
  unfold F_law_C10
  rw [if_pos h1]
  rcases x_roll (T := T) (x := (xs (y + 1).toNatClampNeg)) hB with ⟨k, c, hkc, e1, e2⟩ | ⟨r, S', hs', k', q', a', v5, v9, v15, e1, e2, e3, e4, e5⟩
  · rcases hkc with ⟨rfl, rfl⟩ | ⟨rfl, rfl⟩
    · exact tg1 (β := Int32 × (Nat → Int32) × (Nat → Int32) × (Nat → Int32)) (fun p => p.1) (fun p => va_up (va_up (va_up Mo 0 p.2.1) 1 p.2.2.1) 2 p.2.2.2) (show FL_rollBack V T S hs f (xs (y + 1).toNatClampNeg) = some (1, f, (va_up (va_up (va_up V 5 (V 5)) 9 (V 9)) 15 (V 15)), T, S, hs) by unfold FL_rollBack; rw [e1]; rfl) e2 (by decide) (show upd (Mo 2) 1 (1 : Int32) 1 = 1 from zupd_s) (hK _ _ _ _ _ _ (zBRr hB 1 (zc17 rfl rfl rfl rfl rfl rfl rfl rfl rfl rfl rfl rfl rfl rfl rfl rfl rfl)))
    · exact tg1 (β := Int32 × (Nat → Int32) × (Nat → Int32) × (Nat → Int32)) (fun p => p.1) (fun p => va_up (va_up (va_up Mo 0 p.2.1) 1 p.2.2.1) 2 p.2.2.2) (show FL_rollBack V T S hs f (xs (y + 1).toNatClampNeg) = some (2, f, (va_up (va_up (va_up V 5 (V 5)) 9 (V 9)) 15 (V 15)), T, S, hs) by unfold FL_rollBack; rw [e1]; rfl) e2 (by decide) (show upd (Mo 2) 1 (2 : Int32) 1 = 2 from zupd_s) (hK _ _ _ _ _ _ (zBRr hB 2 (zc17 rfl rfl rfl rfl rfl rfl rfl rfl rfl rfl rfl rfl rfl rfl rfl rfl rfl)))
  · exact tg0 (β := Int32 × (Nat → Int32) × (Nat → Int32) × (Nat → Int32)) (fun p => p.1) (fun p => va_up (va_up (va_up Mo 0 p.2.1) 1 p.2.2.1) 2 p.2.2.2) (show FL_rollBack V T S hs f (xs (y + 1).toNatClampNeg) = some (0, vp_updL f 0 r.toInt64, (va_up (va_up (va_up V 5 v5) 9 v9) 15 v15), T, S', hs') by unfold FL_rollBack; rw [e1]; rfl) e2 e3 (fun _ => hK _ _ _ _ _ _ (And.intro e4 e5))
theorem LC15 (hB : zBR N V S hs Mo) (hN : N < 50000) (hK : zK K N (y + 4)) (h1 : az_in (y + 1) L = true) : F_law_C15 K xs L V T S hs Mo f y = some 1 := by
  unfold F_law_C15
  rw [if_pos h1]
  rcases x_enter (T := T) (x := (xs (y + 1).toNatClampNeg)) hB with ⟨k, c, hkc, e1, e2⟩ | ⟨r, S', hs', k', q', a', v11, v12, e1, e2, e3, e4, e5⟩
  · rcases hkc with ⟨rfl, rfl⟩ | ⟨rfl, rfl⟩
    · exact tg1 (β := Int32 × (Nat → Int32) × (Nat → Int32) × (Nat → Int32)) (fun p => p.1) (fun p => va_up (va_up (va_up Mo 0 p.2.1) 1 p.2.2.1) 2 p.2.2.2) (show FL_enter V T S hs f (xs (y + 1).toNatClampNeg) = some (1, f, (va_up (va_up V 11 (V 11)) 12 (V 12)), T, S, hs) by unfold FL_enter; rw [e1]; rfl) e2 (by decide) (show upd (Mo 2) 1 (1 : Int32) 1 = 1 from zupd_s) (hK _ _ _ _ _ _ (zBRr hB 1 (zc17 rfl rfl rfl rfl rfl rfl rfl rfl rfl rfl rfl rfl rfl rfl rfl rfl rfl)))
    · exact tg1 (β := Int32 × (Nat → Int32) × (Nat → Int32) × (Nat → Int32)) (fun p => p.1) (fun p => va_up (va_up (va_up Mo 0 p.2.1) 1 p.2.2.1) 2 p.2.2.2) (show FL_enter V T S hs f (xs (y + 1).toNatClampNeg) = some (2, f, (va_up (va_up V 11 (V 11)) 12 (V 12)), T, S, hs) by unfold FL_enter; rw [e1]; rfl) e2 (by decide) (show upd (Mo 2) 1 (2 : Int32) 1 = 2 from zupd_s) (hK _ _ _ _ _ _ (zBRr hB 2 (zc17 rfl rfl rfl rfl rfl rfl rfl rfl rfl rfl rfl rfl rfl rfl rfl rfl rfl)))
  · exact tg0 (β := Int32 × (Nat → Int32) × (Nat → Int32) × (Nat → Int32)) (fun p => p.1) (fun p => va_up (va_up (va_up Mo 0 p.2.1) 1 p.2.2.1) 2 p.2.2.2) (show FL_enter V T S hs f (xs (y + 1).toNatClampNeg) = some (0, vp_updL f 0 r.toInt64, (va_up (va_up V 11 v11) 12 v12), T, S', hs') by unfold FL_enter; rw [e1]; rfl) e2 e3 (fun _ => hK _ _ _ _ _ _ (And.intro e4 e5))
theorem LC16 (hB : zBR N V S hs Mo) (hN : N < 50000) (hK : zK K N (y + 4)) (h1 : az_in (y + 1) L = true) : F_law_C16 K xs L V T S hs Mo f y = some 1 := by
  unfold F_law_C16
  rw [if_pos h1]
  rcases x_leave (T := T) (x := (xs (y + 1).toNatClampNeg)) hB with ⟨k, c, hkc, e1, e2⟩ | ⟨r, S', hs', k', q', a', v10, v11, v12, e1, e2, e3, e4, e5⟩
  · rcases hkc with ⟨rfl, rfl⟩ | ⟨rfl, rfl⟩
    · exact tg1 (β := Int32 × (Nat → Int32) × (Nat → Int32) × (Nat → Int32)) (fun p => p.1) (fun p => va_up (va_up (va_up Mo 0 p.2.1) 1 p.2.2.1) 2 p.2.2.2) (show FL_leave V T S hs f (xs (y + 1).toNatClampNeg) = some (1, f, (va_up (va_up (va_up V 10 (V 10)) 11 (V 11)) 12 (V 12)), T, S, hs) by unfold FL_leave; rw [e1]; rfl) e2 (by decide) (show upd (Mo 2) 1 (1 : Int32) 1 = 1 from zupd_s) (hK _ _ _ _ _ _ (zBRr hB 1 (zc17 rfl rfl rfl rfl rfl rfl rfl rfl rfl rfl rfl rfl rfl rfl rfl rfl rfl)))
    · exact tg1 (β := Int32 × (Nat → Int32) × (Nat → Int32) × (Nat → Int32)) (fun p => p.1) (fun p => va_up (va_up (va_up Mo 0 p.2.1) 1 p.2.2.1) 2 p.2.2.2) (show FL_leave V T S hs f (xs (y + 1).toNatClampNeg) = some (2, f, (va_up (va_up (va_up V 10 (V 10)) 11 (V 11)) 12 (V 12)), T, S, hs) by unfold FL_leave; rw [e1]; rfl) e2 (by decide) (show upd (Mo 2) 1 (2 : Int32) 1 = 2 from zupd_s) (hK _ _ _ _ _ _ (zBRr hB 2 (zc17 rfl rfl rfl rfl rfl rfl rfl rfl rfl rfl rfl rfl rfl rfl rfl rfl rfl)))
  · exact tg0 (β := Int32 × (Nat → Int32) × (Nat → Int32) × (Nat → Int32)) (fun p => p.1) (fun p => va_up (va_up (va_up Mo 0 p.2.1) 1 p.2.2.1) 2 p.2.2.2) (show FL_leave V T S hs f (xs (y + 1).toNatClampNeg) = some (0, vp_updL f 0 r.toInt64, (va_up (va_up (va_up V 10 v10) 11 v11) 12 v12), T, S', hs') by unfold FL_leave; rw [e1]; rfl) e2 e3 (fun _ => hK _ _ _ _ _ _ (And.intro e4 e5))
theorem LC17 (hB : zBR N V S hs Mo) (hN : N < 50000) (hK : zK K N (y + 4)) (h1 : az_in (y + 1) L = true) : F_law_C17 K xs L V T S hs Mo f y = some 1 := by
  unfold F_law_C17
  rw [if_pos h1]
  rcases x_announce (T := T) (x := (xs (y + 1).toNatClampNeg)) hB with ⟨k, c, hkc, e1, e2⟩ | ⟨r, S', hs', k', q', a', v10, v11, v12, e1, e2, e3, e4, e5⟩
  · rcases hkc with ⟨rfl, rfl⟩ | ⟨rfl, rfl⟩
    · exact tg1 (β := Int32 × (Nat → Int32) × (Nat → Int32) × (Nat → Int32)) (fun p => p.1) (fun p => va_up (va_up (va_up Mo 0 p.2.1) 1 p.2.2.1) 2 p.2.2.2) (show FL_announce V T S hs f (xs (y + 1).toNatClampNeg) = some (1, f, (va_up (va_up (va_up V 10 (V 10)) 11 (V 11)) 12 (V 12)), T, S, hs) by unfold FL_announce; rw [e1]; rfl) e2 (by decide) (show upd (Mo 2) 1 (1 : Int32) 1 = 1 from zupd_s) (hK _ _ _ _ _ _ (zBRr hB 1 (zc17 rfl rfl rfl rfl rfl rfl rfl rfl rfl rfl rfl rfl rfl rfl rfl rfl rfl)))
    · exact tg1 (β := Int32 × (Nat → Int32) × (Nat → Int32) × (Nat → Int32)) (fun p => p.1) (fun p => va_up (va_up (va_up Mo 0 p.2.1) 1 p.2.2.1) 2 p.2.2.2) (show FL_announce V T S hs f (xs (y + 1).toNatClampNeg) = some (2, f, (va_up (va_up (va_up V 10 (V 10)) 11 (V 11)) 12 (V 12)), T, S, hs) by unfold FL_announce; rw [e1]; rfl) e2 (by decide) (show upd (Mo 2) 1 (2 : Int32) 1 = 2 from zupd_s) (hK _ _ _ _ _ _ (zBRr hB 2 (zc17 rfl rfl rfl rfl rfl rfl rfl rfl rfl rfl rfl rfl rfl rfl rfl rfl rfl)))
  · exact tg0 (β := Int32 × (Nat → Int32) × (Nat → Int32) × (Nat → Int32)) (fun p => p.1) (fun p => va_up (va_up (va_up Mo 0 p.2.1) 1 p.2.2.1) 2 p.2.2.2) (show FL_announce V T S hs f (xs (y + 1).toNatClampNeg) = some (0, vp_updL f 0 r.toInt64, (va_up (va_up (va_up V 10 v10) 11 v11) 12 v12), T, S', hs') by unfold FL_announce; rw [e1]; rfl) e2 e3 (fun _ => hK _ _ _ _ _ _ (And.intro e4 e5))
theorem LC18 (hB : zBR N V S hs Mo) (hN : N < 50000) (hK : zK K N (y + 4)) (h1 : az_in (y + 1) L = true) (h2 : az_in (y + 2) L = true) : F_law_C18 K xs L V T S hs Mo f y = some 1 := by
  unfold F_law_C18
  rw [if_pos h1, if_pos h2]
  rcases x_hold (T := T) (x := (xs (y + 1).toNatClampNeg)) (x2 := (xs (y + 2).toNatClampNeg)) hB with ⟨k, c, hkc, e1, e2⟩ | ⟨r, S', hs', k', q', a', v10, e1, e2, e3, e4, e5⟩
  · rcases hkc with ⟨rfl, rfl⟩ | ⟨rfl, rfl⟩ | ⟨rfl, rfl⟩
    · exact tg1 (β := Int32 × (Nat → Int32) × (Nat → Int32) × (Nat → Int32)) (fun p => p.1) (fun p => va_up (va_up (va_up Mo 0 p.2.1) 1 p.2.2.1) 2 p.2.2.2) (show FL_hold V T S hs f (xs (y + 1).toNatClampNeg) (xs (y + 2).toNatClampNeg) = some (1, f, (va_up V 10 (V 10)), T, S, hs) by unfold FL_hold; rw [e1]; rfl) e2 (by decide) (show upd (Mo 2) 1 (1 : Int32) 1 = 1 from zupd_s) (hK _ _ _ _ _ _ (zBRr hB 1 (zc17 rfl rfl rfl rfl rfl rfl rfl rfl rfl rfl rfl rfl rfl rfl rfl rfl rfl)))
    · exact tg1 (β := Int32 × (Nat → Int32) × (Nat → Int32) × (Nat → Int32)) (fun p => p.1) (fun p => va_up (va_up (va_up Mo 0 p.2.1) 1 p.2.2.1) 2 p.2.2.2) (show FL_hold V T S hs f (xs (y + 1).toNatClampNeg) (xs (y + 2).toNatClampNeg) = some (2, f, (va_up V 10 (V 10)), T, S, hs) by unfold FL_hold; rw [e1]; rfl) e2 (by decide) (show upd (Mo 2) 1 (2 : Int32) 1 = 2 from zupd_s) (hK _ _ _ _ _ _ (zBRr hB 2 (zc17 rfl rfl rfl rfl rfl rfl rfl rfl rfl rfl rfl rfl rfl rfl rfl rfl rfl)))
    · exact tg1 (β := Int32 × (Nat → Int32) × (Nat → Int32) × (Nat → Int32)) (fun p => p.1) (fun p => va_up (va_up (va_up Mo 0 p.2.1) 1 p.2.2.1) 2 p.2.2.2) (show FL_hold V T S hs f (xs (y + 1).toNatClampNeg) (xs (y + 2).toNatClampNeg) = some (3, f, (va_up V 10 (V 10)), T, S, hs) by unfold FL_hold; rw [e1]; rfl) e2 (by decide) (show upd (Mo 2) 1 (3 : Int32) 1 = 3 from zupd_s) (hK _ _ _ _ _ _ (zBRr hB 3 (zc17 rfl rfl rfl rfl rfl rfl rfl rfl rfl rfl rfl rfl rfl rfl rfl rfl rfl)))
  · exact tg0 (β := Int32 × (Nat → Int32) × (Nat → Int32) × (Nat → Int32)) (fun p => p.1) (fun p => va_up (va_up (va_up Mo 0 p.2.1) 1 p.2.2.1) 2 p.2.2.2) (show FL_hold V T S hs f (xs (y + 1).toNatClampNeg) (xs (y + 2).toNatClampNeg) = some (0, vp_updL f 0 r.toInt64, (va_up V 10 v10), T, S', hs') by unfold FL_hold; rw [e1]; rfl) e2 e3 (fun _ => hK _ _ _ _ _ _ (And.intro e4 e5))
theorem LC19 (hB : zBR N V S hs Mo) (hN : N < 50000) (hK : zK K N (y + 4)) (h1 : az_in (y + 1) L = true) (h2 : az_in (y + 2) L = true) : F_law_C19 K xs L V T S hs Mo f y = some 1 := by
  unfold F_law_C19
  rw [if_pos h1, if_pos h2]
  rcases x_release (T := T) (x := (xs (y + 1).toNatClampNeg)) (x2 := (xs (y + 2).toNatClampNeg)) hB with ⟨k, c, hkc, e1, e2⟩ | ⟨r, S', hs', k', q', a', v10, e1, e2, e3, e4, e5⟩
  · rcases hkc with ⟨rfl, rfl⟩ | ⟨rfl, rfl⟩
    · exact tg1 (β := Int32 × (Nat → Int32) × (Nat → Int32) × (Nat → Int32)) (fun p => p.1) (fun p => va_up (va_up (va_up Mo 0 p.2.1) 1 p.2.2.1) 2 p.2.2.2) (show FL_release V T S hs f (xs (y + 1).toNatClampNeg) (xs (y + 2).toNatClampNeg) = some (1, f, (va_up V 10 (V 10)), T, S, hs) by unfold FL_release; rw [e1]; rfl) e2 (by decide) (show upd (Mo 2) 1 (1 : Int32) 1 = 1 from zupd_s) (hK _ _ _ _ _ _ (zBRr hB 1 (zc17 rfl rfl rfl rfl rfl rfl rfl rfl rfl rfl rfl rfl rfl rfl rfl rfl rfl)))
    · exact tg1 (β := Int32 × (Nat → Int32) × (Nat → Int32) × (Nat → Int32)) (fun p => p.1) (fun p => va_up (va_up (va_up Mo 0 p.2.1) 1 p.2.2.1) 2 p.2.2.2) (show FL_release V T S hs f (xs (y + 1).toNatClampNeg) (xs (y + 2).toNatClampNeg) = some (2, f, (va_up V 10 (V 10)), T, S, hs) by unfold FL_release; rw [e1]; rfl) e2 (by decide) (show upd (Mo 2) 1 (2 : Int32) 1 = 2 from zupd_s) (hK _ _ _ _ _ _ (zBRr hB 2 (zc17 rfl rfl rfl rfl rfl rfl rfl rfl rfl rfl rfl rfl rfl rfl rfl rfl rfl)))
  · exact tg0 (β := Int32 × (Nat → Int32) × (Nat → Int32) × (Nat → Int32)) (fun p => p.1) (fun p => va_up (va_up (va_up Mo 0 p.2.1) 1 p.2.2.1) 2 p.2.2.2) (show FL_release V T S hs f (xs (y + 1).toNatClampNeg) (xs (y + 2).toNatClampNeg) = some (0, vp_updL f 0 r.toInt64, (va_up V 10 v10), T, S', hs') by unfold FL_release; rw [e1]; rfl) e2 e3 (fun _ => hK _ _ _ _ _ _ (And.intro e4 e5))
theorem LC23 (hB : zBR N V S hs Mo) (hN : N < 50000) (hK : zK K N (y + 4)) (h1 : az_in (y + 1) L = true) : F_law_C23 K xs L V T S hs Mo f y = some 1 := by
  unfold F_law_C23
  rw [if_pos h1]
  rcases x_expel (T := T) (x := (xs (y + 1).toNatClampNeg)) hB with ⟨k, c, hkc, e1, e2⟩ | ⟨r, S', hs', k', q', a', v10, v11, v12, e1, e2, e3, e4, e5⟩
  · rcases hkc with ⟨rfl, rfl⟩ | ⟨rfl, rfl⟩
    · exact tg1 (β := Int32 × (Nat → Int32) × (Nat → Int32) × (Nat → Int32)) (fun p => p.1) (fun p => va_up (va_up (va_up Mo 0 p.2.1) 1 p.2.2.1) 2 p.2.2.2) (show FL_expel V T S hs f (xs (y + 1).toNatClampNeg) = some (1, f, (va_up (va_up (va_up V 10 (V 10)) 11 (V 11)) 12 (V 12)), T, S, hs) by unfold FL_expel; rw [e1]; rfl) e2 (by decide) (show upd (Mo 2) 1 (1 : Int32) 1 = 1 from zupd_s) (hK _ _ _ _ _ _ (zBRr hB 1 (zc17 rfl rfl rfl rfl rfl rfl rfl rfl rfl rfl rfl rfl rfl rfl rfl rfl rfl)))
    · exact tg1 (β := Int32 × (Nat → Int32) × (Nat → Int32) × (Nat → Int32)) (fun p => p.1) (fun p => va_up (va_up (va_up Mo 0 p.2.1) 1 p.2.2.1) 2 p.2.2.2) (show FL_expel V T S hs f (xs (y + 1).toNatClampNeg) = some (2, f, (va_up (va_up (va_up V 10 (V 10)) 11 (V 11)) 12 (V 12)), T, S, hs) by unfold FL_expel; rw [e1]; rfl) e2 (by decide) (show upd (Mo 2) 1 (2 : Int32) 1 = 2 from zupd_s) (hK _ _ _ _ _ _ (zBRr hB 2 (zc17 rfl rfl rfl rfl rfl rfl rfl rfl rfl rfl rfl rfl rfl rfl rfl rfl rfl)))
  · exact tg0 (β := Int32 × (Nat → Int32) × (Nat → Int32) × (Nat → Int32)) (fun p => p.1) (fun p => va_up (va_up (va_up Mo 0 p.2.1) 1 p.2.2.1) 2 p.2.2.2) (show FL_expel V T S hs f (xs (y + 1).toNatClampNeg) = some (0, vp_updL f 0 r.toInt64, (va_up (va_up (va_up V 10 v10) 11 v11) 12 v12), T, S', hs') by unfold FL_expel; rw [e1]; rfl) e2 e3 (fun _ => hK _ _ _ _ _ _ (And.intro e4 e5))
theorem LC26 (hB : zBR N V S hs Mo) (hN : N < 50000) (hK : zK K N (y + 4))  : F_law_C26 K xs L V T S hs Mo f y = some 1 := by
  unfold F_law_C26
  rcases x_advance (T := T)  hB hN with ⟨e1, e2⟩ | ⟨r, S', hs', k', q', a', v16, e1, e2, e3, e4, e5⟩
  · exact tg1 (β := Int32 × (Nat → Int32) × (Nat → Int32) × (Nat → Int32)) (fun p => p.1) (fun p => va_up (va_up (va_up Mo 0 p.2.1) 1 p.2.2.1) 2 p.2.2.2) (show FL_advance V T S hs f  = some (1, f, (va_up V 16 (V 16)), T, S, hs) by unfold FL_advance; rw [e1]; rfl) e2 (by decide) (show upd (Mo 2) 1 (1 : Int32) 1 = 1 from zupd_s) (hK _ _ _ _ _ _ (zBRr hB 1 (zc17 rfl rfl rfl rfl rfl rfl rfl rfl rfl rfl rfl rfl rfl rfl rfl rfl rfl)))
  · exact tg0 (β := Int32 × (Nat → Int32) × (Nat → Int32) × (Nat → Int32)) (fun p => p.1) (fun p => va_up (va_up (va_up Mo 0 p.2.1) 1 p.2.2.1) 2 p.2.2.2) (show FL_advance V T S hs f  = some (0, vp_updL f 0 r.toInt64, (va_up V 16 v16), T, S', hs') by unfold FL_advance; rw [e1]; rfl) e2 e3 (fun _ => hK _ _ _ _ _ _ (And.intro e4 e5))
theorem LC27 (hB : zBR N V S hs Mo) (hN : N < 50000) (hK : zK K N (y + 4)) (h1 : az_in (y + 1) L = true) : F_law_C27 K xs L V T S hs Mo f y = some 1 := by
  unfold F_law_C27
  rw [if_pos h1]
  rcases x_pass (T := T) (x := (xs (y + 1).toNatClampNeg)) hB with ⟨k, c, hkc, e1, e2⟩ | ⟨r, S', hs', k', q', a', v16, e1, e2, e3, e4, e5⟩
  · rcases hkc with ⟨rfl, rfl⟩ | ⟨rfl, rfl⟩
    · exact tg1 (β := Int32 × (Nat → Int32) × (Nat → Int32) × (Nat → Int32)) (fun p => p.1) (fun p => va_up (va_up (va_up Mo 0 p.2.1) 1 p.2.2.1) 2 p.2.2.2) (show FL_pass V T S hs f (xs (y + 1).toNatClampNeg) = some (1, f, (va_up V 16 (V 16)), T, S, hs) by unfold FL_pass; rw [e1]; rfl) e2 (by decide) (show upd (Mo 2) 1 (1 : Int32) 1 = 1 from zupd_s) (hK _ _ _ _ _ _ (zBRr hB 1 (zc17 rfl rfl rfl rfl rfl rfl rfl rfl rfl rfl rfl rfl rfl rfl rfl rfl rfl)))
    · exact tg1 (β := Int32 × (Nat → Int32) × (Nat → Int32) × (Nat → Int32)) (fun p => p.1) (fun p => va_up (va_up (va_up Mo 0 p.2.1) 1 p.2.2.1) 2 p.2.2.2) (show FL_pass V T S hs f (xs (y + 1).toNatClampNeg) = some (2, f, (va_up V 16 (V 16)), T, S, hs) by unfold FL_pass; rw [e1]; rfl) e2 (by decide) (show upd (Mo 2) 1 (2 : Int32) 1 = 2 from zupd_s) (hK _ _ _ _ _ _ (zBRr hB 2 (zc17 rfl rfl rfl rfl rfl rfl rfl rfl rfl rfl rfl rfl rfl rfl rfl rfl rfl)))
  · exact tg0 (β := Int32 × (Nat → Int32) × (Nat → Int32) × (Nat → Int32)) (fun p => p.1) (fun p => va_up (va_up (va_up Mo 0 p.2.1) 1 p.2.2.1) 2 p.2.2.2) (show FL_pass V T S hs f (xs (y + 1).toNatClampNeg) = some (0, vp_updL f 0 r.toInt64, (va_up V 16 v16), T, S', hs') by unfold FL_pass; rw [e1]; rfl) e2 e3 (fun _ => hK _ _ _ _ _ _ (And.intro e4 e5))
theorem LC38 (hB : zBR N V S hs Mo) (hN : N < 50000) (hK : zK K N (y + 4)) (h1 : az_in (y + 1) L = true) : F_law_C38 K xs L V T S hs Mo f y = some 1 := by
  unfold F_law_C38
  rw [if_pos h1]
  rcases x_relocate (T := T) (x := (xs (y + 1).toNatClampNeg)) hB with ⟨k, c, hkc, e1, e2⟩ | ⟨r, S', hs', k', q', a', v0, v2, v3, v5, v6, v7, v8, v9, v14, v15, v16, e1, e2, e3, e4, e5⟩
  · rcases hkc with ⟨rfl, rfl⟩ | ⟨rfl, rfl⟩
    · exact tg1 (β := Int32 × (Nat → Int32) × (Nat → Int32) × (Nat → Int32)) (fun p => p.1) (fun p => va_up (va_up (va_up Mo 0 p.2.1) 1 p.2.2.1) 2 p.2.2.2) (show FL_relocate V T S hs f (xs (y + 1).toNatClampNeg) = some (1, f, (va_up (va_up (va_up (va_up (va_up (va_up (va_up (va_up (va_up (va_up (va_up V 0 (V 0)) 2 (V 2)) 3 (V 3)) 5 (V 5)) 6 (V 6)) 7 (V 7)) 8 (V 8)) 9 (V 9)) 14 (V 14)) 15 (V 15)) 16 (V 16)), T, S, hs) by unfold FL_relocate; rw [e1]; rfl) e2 (by decide) (show upd (Mo 2) 1 (1 : Int32) 1 = 1 from zupd_s) (hK _ _ _ _ _ _ (zBRr hB 1 (zc17 rfl rfl rfl rfl rfl rfl rfl rfl rfl rfl rfl rfl rfl rfl rfl rfl rfl)))
    · exact tg1 (β := Int32 × (Nat → Int32) × (Nat → Int32) × (Nat → Int32)) (fun p => p.1) (fun p => va_up (va_up (va_up Mo 0 p.2.1) 1 p.2.2.1) 2 p.2.2.2) (show FL_relocate V T S hs f (xs (y + 1).toNatClampNeg) = some (2, f, (va_up (va_up (va_up (va_up (va_up (va_up (va_up (va_up (va_up (va_up (va_up V 0 (V 0)) 2 (V 2)) 3 (V 3)) 5 (V 5)) 6 (V 6)) 7 (V 7)) 8 (V 8)) 9 (V 9)) 14 (V 14)) 15 (V 15)) 16 (V 16)), T, S, hs) by unfold FL_relocate; rw [e1]; rfl) e2 (by decide) (show upd (Mo 2) 1 (2 : Int32) 1 = 2 from zupd_s) (hK _ _ _ _ _ _ (zBRr hB 2 (zc17 rfl rfl rfl rfl rfl rfl rfl rfl rfl rfl rfl rfl rfl rfl rfl rfl rfl)))
  · exact tg0 (β := Int32 × (Nat → Int32) × (Nat → Int32) × (Nat → Int32)) (fun p => p.1) (fun p => va_up (va_up (va_up Mo 0 p.2.1) 1 p.2.2.1) 2 p.2.2.2) (show FL_relocate V T S hs f (xs (y + 1).toNatClampNeg) = some (0, vp_updL f 0 r.toInt64, (va_up (va_up (va_up (va_up (va_up (va_up (va_up (va_up (va_up (va_up (va_up V 0 v0) 2 v2) 3 v3) 5 v5) 6 v6) 7 v7) 8 v8) 9 v9) 14 v14) 15 v15) 16 v16), T, S', hs') by unfold FL_relocate; rw [e1]; rfl) e2 e3 (fun _ => hK _ _ _ _ _ _ (And.intro e4 e5))
theorem LC0 (hB : zBR N V S hs Mo) (hN : N < 50000) (hK : zK K N (y + 4)) (h1 : az_in (y + 1) L = true) (h2 : az_in (y + 2) L = true) (h3 : az_in (y + 3) L = true) : F_law_C0 K xs L V T S hs Mo f y = some 1 := by
  unfold F_law_C0
  rw [if_pos h1, if_pos h2, if_pos h3]
  rcases x_reset (T := T) (x := (xs (y + 1).toNatClampNeg)) (x2 := (xs (y + 2).toNatClampNeg)) (x3 := (xs (y + 3).toNatClampNeg)) hB with ⟨e1, e2⟩ | ⟨S', hs', k', q', a', v0, v1, v2, v3, v4, v5, v6, v7, v8, v9, v10, v11, v12, v13, v14, v15, v16, e1, e2, e3, e4, e5⟩
  · rw [show FL_reset V T S hs (xs (y + 1).toNatClampNeg) (xs (y + 2).toNatClampNeg) (xs (y + 3).toNatClampNeg) = some (1, (va_up (va_up (va_up (va_up (va_up (va_up (va_up (va_up (va_up (va_up (va_up (va_up (va_up (va_up (va_up (va_up (va_up V 0 (V 0)) 1 (V 1)) 2 (V 2)) 3 (V 3)) 4 (V 4)) 5 (V 5)) 6 (V 6)) 7 (V 7)) 8 (V 8)) 9 (V 9)) 10 (V 10)) 11 (V 11)) 12 (V 12)) 13 (V 13)) 14 (V 14)) 15 (V 15)) 16 (V 16)), T, S, hs) by unfold FL_reset; rw [e1]; rfl, e2, Option.bind_some, Option.bind_some]
    unfold FX7_thrown
    rw [Option.bind_some]
    exact (if_pos (show upd (Mo 2) 1 (1 : Int32) 1 = 1 from zupd_s)).trans (hK _ _ _ _ _ _ (zBRr hB 1 (zc17 rfl rfl rfl rfl rfl rfl rfl rfl rfl rfl rfl rfl rfl rfl rfl rfl rfl)))
  · rw [show FL_reset V T S hs (xs (y + 1).toNatClampNeg) (xs (y + 2).toNatClampNeg) (xs (y + 3).toNatClampNeg) = some (0, (va_up (va_up (va_up (va_up (va_up (va_up (va_up (va_up (va_up (va_up (va_up (va_up (va_up (va_up (va_up (va_up (va_up V 0 v0) 1 v1) 2 v2) 3 v3) 4 v4) 5 v5) 6 v6) 7 v7) 8 v8) 9 v9) 10 v10) 11 v11) 12 v12) 13 v13) 14 v14) 15 v15) 16 v16), T, S', hs') by unfold FL_reset; rw [e1]; rfl, e2, Option.bind_some, Option.bind_some]
    unfold FX7_thrown
    rw [Option.bind_some]
    exact (if_pos e3).trans (hK _ _ _ _ _ _ (And.intro e4 e5))
theorem LC35 (hB : zBR N V S hs Mo) (hN : N < 50000) (hK : zK K N (y + 4))  : F_law_C35 K xs L V T S hs Mo f y = some 1 := by
  unfold F_law_C35
  obtain ⟨r, S', v0, v1, v2, v5, v6, v7, v8, v9, v10, hs', a', k', q', e1, e2, -, e4, e5⟩ := x_reclaim (T := T) hB
  rw [e1, e2, Option.bind_some, Option.bind_some]
  exact (if_pos rfl).trans (hK _ _ _ _ _ _ (And.intro e4 e5))
theorem LC45 (hB : zBR N V S hs Mo) (hN : N < 50000) (hK : zK K N (y + 4))  : F_law_C45 K xs L V T S hs Mo f y = some 1 := by
  unfold F_law_C45
  rcases x_undo (T := T) hB with ⟨e1, e2⟩ | ⟨r, V', hs', a', q', e1, e2, e3, e4, e5⟩
  · exact tg1 (β := Int32 × (Nat → Int32) × (Nat → Int32)) (fun p => p.1) (fun p => va_up (va_up Mo 0 p.2.1) 2 p.2.2) (show FL_undo V T S hs f = some (1, f, V, T, S, hs) by unfold FL_undo; rw [e1]; rfl) e2 (by decide) (show upd (Mo 2) 1 (1 : Int32) 1 = 1 from zupd_s) (hK _ _ _ _ _ _ (zBRq hB 1))
  · exact tg0 (β := Int32 × (Nat → Int32) × (Nat → Int32)) (fun p => p.1) (fun p => va_up (va_up Mo 0 p.2.1) 2 p.2.2) (show FL_undo V T S hs f = some (0, vp_updL f 0 r.toInt64, V', T, S, hs') by unfold FL_undo; rw [e1]; rfl) e2 e3 (fun _ => hK _ _ _ _ _ _ (And.intro (zGood_up e4 (by omega)) (zHist_up e5 (by omega))))
theorem LC40 (hB : zBR N V S hs Mo) (hN : N < 50000) (hK : zK K N (y + 4)) (h1 : az_in (y + 1) L = true) (h2 : az_in (y + 2) L = true) : F_law_C40 K xs L V T S hs Mo f y = some 1 := by
  unfold F_law_C40
  rw [if_pos h1, if_pos h2]
  rcases x_relFor (T := T) (x := (xs (y + 1).toNatClampNeg)) (x2 := (xs (y + 2).toNatClampNeg)) hB hN with ⟨e1, e2⟩ | ⟨k, c, r, b, q, w, t, a', hkc, e1, e2, e3, e4⟩
  · exact tg1 (β := Int32 × (Nat → Int32) × (Nat → Int32) × (Nat → Int32)) (fun p => p.1) (fun p => va_up (va_up (va_up Mo 0 p.2.1) 2 p.2.2.1) 3 p.2.2.2) (show FL_relocationsFor V T S hs f (xs (y + 1).toNatClampNeg) (xs (y + 2).toNatClampNeg) = some (1, f, V, (va_up (va_up (va_up (va_up (va_up (va_up (va_up (va_up (va_up (va_up (va_up (va_up (va_up (va_up (va_up (va_up (va_up T 0 (T 0)) 1 (T 1)) 2 (T 2)) 3 (T 3)) 4 (T 4)) 5 (T 5)) 6 (T 6)) 7 (T 7)) 8 (T 8)) 9 (T 9)) 10 (T 10)) 11 (T 11)) 12 (T 12)) 13 (T 13)) 14 (T 14)) 15 (T 15)) 16 (T 16)), S, hs) by unfold FL_relocationsFor; rw [e1]; rfl) e2 (by decide) (show upd (Mo 2) 1 (1 : Int32) 1 = 1 from zupd_s) (hK _ _ _ _ _ _ (And.intro (zGood_up hB.1 (by omega)) (zHist_up (zHist_q hB.2 (show upd (Mo 2) 1 (1 : Int32) 0 = Mo 2 0 from zupd_n (by decide))) (by omega))))
  · have g : ∀ c : Int32, zBR (N + 1) V S hs (va_up (va_up (va_up Mo 0 a') 2 (upd q 1 c)) 3 w) := fun c => And.intro (zGood_e (zGood_up hB.1 (by omega)) (zEq_rf V) e4) (zHist_up (zHist_q hB.2 (show upd q 1 c 0 = Mo 2 0 from (zupd_n (by decide)).trans e3)) (by omega))
    rcases hkc with ⟨rfl, rfl, rfl⟩ | ⟨rfl, rfl⟩
    · exact tg0 (β := Int32 × (Nat → Int32) × (Nat → Int32) × (Nat → Int32)) (fun p => p.1) (fun p => va_up (va_up (va_up Mo 0 p.2.1) 2 p.2.2.1) 3 p.2.2.2) (show FL_relocationsFor V T S hs f (xs (y + 1).toNatClampNeg) (xs (y + 2).toNatClampNeg) = some (0, vp_updL f 0 b.toInt64, V, (va_up (va_up (va_up (va_up (va_up (va_up (va_up (va_up (va_up (va_up (va_up (va_up (va_up (va_up (va_up (va_up (va_up T 0 t.1) 1 t.2.1) 2 t.2.2.1) 3 t.2.2.2.1) 4 t.2.2.2.2.1) 5 t.2.2.2.2.2.1) 6 t.2.2.2.2.2.2.1) 7 t.2.2.2.2.2.2.2.1) 8 t.2.2.2.2.2.2.2.2.1) 9 t.2.2.2.2.2.2.2.2.2.1) 10 t.2.2.2.2.2.2.2.2.2.2.1) 11 t.2.2.2.2.2.2.2.2.2.2.2.1) 12 t.2.2.2.2.2.2.2.2.2.2.2.2.1) 13 t.2.2.2.2.2.2.2.2.2.2.2.2.2.1) 14 t.2.2.2.2.2.2.2.2.2.2.2.2.2.2.1) 15 t.2.2.2.2.2.2.2.2.2.2.2.2.2.2.2.1) 16 t.2.2.2.2.2.2.2.2.2.2.2.2.2.2.2.2), S, hs) by unfold FL_relocationsFor; rw [e1]; rfl) e2 (show upd q 1 (0 : Int32) 1 = 0 from zupd_s) (fun _ => hK _ _ _ _ _ _ (g 0))
    · exact tg1 (β := Int32 × (Nat → Int32) × (Nat → Int32) × (Nat → Int32)) (fun p => p.1) (fun p => va_up (va_up (va_up Mo 0 p.2.1) 2 p.2.2.1) 3 p.2.2.2) (show FL_relocationsFor V T S hs f (xs (y + 1).toNatClampNeg) (xs (y + 2).toNatClampNeg) = some (2, f, V, (va_up (va_up (va_up (va_up (va_up (va_up (va_up (va_up (va_up (va_up (va_up (va_up (va_up (va_up (va_up (va_up (va_up T 0 t.1) 1 t.2.1) 2 t.2.2.1) 3 t.2.2.2.1) 4 t.2.2.2.2.1) 5 t.2.2.2.2.2.1) 6 t.2.2.2.2.2.2.1) 7 t.2.2.2.2.2.2.2.1) 8 t.2.2.2.2.2.2.2.2.1) 9 t.2.2.2.2.2.2.2.2.2.1) 10 t.2.2.2.2.2.2.2.2.2.2.1) 11 t.2.2.2.2.2.2.2.2.2.2.2.1) 12 t.2.2.2.2.2.2.2.2.2.2.2.2.1) 13 t.2.2.2.2.2.2.2.2.2.2.2.2.2.1) 14 t.2.2.2.2.2.2.2.2.2.2.2.2.2.2.1) 15 t.2.2.2.2.2.2.2.2.2.2.2.2.2.2.2.1) 16 t.2.2.2.2.2.2.2.2.2.2.2.2.2.2.2.2), S, hs) by unfold FL_relocationsFor; rw [e1]; rfl) e2 (by decide) (show upd q 1 (2 : Int32) 1 = 2 from zupd_s) (hK _ _ _ _ _ _ (g 2))
end LW
