/-! RELOCATING IN THOUGHT, on both sides -/
abbrev z13 : Type := (Nat → Int32) × (Nat → Int32) × (Nat → Int32) × (Nat → Int32) × (Nat → Int32) × (Nat → Int32) × (Nat → Int32) × (Nat → Int32) × (Nat → Int32) × (Nat → Int32) × (Nat → Int32) × (Nat → Int32) × (Nat → Int32)
def zV13 (V : az_St) (x : z13) : az_St := va_up (va_up (va_up (va_up (va_up (va_up (va_up (va_up (va_up (va_up (va_up (va_up (va_up V 0 x.1) 1 x.2.1) 2 x.2.2.1) 3 x.2.2.2.1) 5 x.2.2.2.2.1) 6 x.2.2.2.2.2.1) 7 x.2.2.2.2.2.2.1) 8 x.2.2.2.2.2.2.2.1) 9 x.2.2.2.2.2.2.2.2.1) 10 x.2.2.2.2.2.2.2.2.2.1) 14 x.2.2.2.2.2.2.2.2.2.2.1) 15 x.2.2.2.2.2.2.2.2.2.2.2.1) 16 x.2.2.2.2.2.2.2.2.2.2.2.2
/-- behind a regaining -/
def zx9 (x : z13) (r : z9) (f : Nat → Int32) : z13 := (r.1, r.2.1, r.2.2.1, x.2.2.2.1, r.2.2.2.1, r.2.2.2.2.1, r.2.2.2.2.2.1, r.2.2.2.2.2.2.1, r.2.2.2.2.2.2.2.1, r.2.2.2.2.2.2.2.2, x.2.2.2.2.2.2.2.2.2.2.1, x.2.2.2.2.2.2.2.2.2.2.2.1, f)
/-- behind a segment's moving -/
def zx11 (x : z13) (r : z11) (f : Nat → Int32) : z13 := (r.1, x.2.1, r.2.1, r.2.2.1, r.2.2.2.1, r.2.2.2.2.1, r.2.2.2.2.2.1, r.2.2.2.2.2.2.1, r.2.2.2.2.2.2.2.1, x.2.2.2.2.2.2.2.2.2.1, r.2.2.2.2.2.2.2.2.1, r.2.2.2.2.2.2.2.2.2, f)
def FRU (m : Nat) (V : az_St) (x1 x2 : Int32) (x : z13) (i : Int32) : Option (Int32 × z13) := FX5_relocateUntilRoom_L2 m V x1 x2 x.1 x.2.1 x.2.2.1 x.2.2.2.1 x.2.2.2.2.1 x.2.2.2.2.2.1 x.2.2.2.2.2.2.1 x.2.2.2.2.2.2.2.1 x.2.2.2.2.2.2.2.2.1 x.2.2.2.2.2.2.2.2.2.1 x.2.2.2.2.2.2.2.2.2.2.1 x.2.2.2.2.2.2.2.2.2.2.2.1 x.2.2.2.2.2.2.2.2.2.2.2.2 i
theorem FRU_s (m : Nat) (V : az_St) (x1 x2 : Int32) (x : z13) (i : Int32) (f : Nat → Int32) (ef : f = upd x.2.2.2.2.2.2.2.2.2.2.2.2 1 (x.2.2.2.2.2.2.2.2.2.2.2.2 1 + 2)) : FRU (m + 1) V x1 x2 x i = (if 20 < i then some (-1, x) else (FX5_regain (zV13 V (x.1, x.2.1, x.2.2.1, x.2.2.2.1, x.2.2.2.2.1, x.2.2.2.2.2.1, x.2.2.2.2.2.2.1, x.2.2.2.2.2.2.2.1, x.2.2.2.2.2.2.2.2.1, x.2.2.2.2.2.2.2.2.2.1, x.2.2.2.2.2.2.2.2.2.2.1, x.2.2.2.2.2.2.2.2.2.2.2.1, f))).bind (fun o => (FX5_roomForWrites (zV13 V (zx9 x o.2 f))).bind (fun o24 => if o24 < x2 then ((FX5_chooseVictim (zV13 V (zx9 x o.2 f)) x1).bind (fun o35 => if o35 = -1 then some (-1, zx9 x o.2 f) else ((FX5_useOf (zV13 V (zx9 x o.2 f)) o35).bind (fun o49 => (FX5_roomForRelocation (zV13 V (zx9 x o.2 f))).bind (fun o53 => if o49 ≤ o53 then ((FX5_moveAll (zV13 V (zx9 x o.2 f)) o35).bind (fun o64 => FRU m V x1 x2 (o64.2.1, o.2.2.1, o64.2.2.1, o64.2.2.2.1, o64.2.2.2.2.1, o64.2.2.2.2.2.1, o64.2.2.2.2.2.2.1, o64.2.2.2.2.2.2.2.1, o64.2.2.2.2.2.2.2.2.1, o.2.2.2.2.2.2.2.2.2, o64.2.2.2.2.2.2.2.2.2.1, o64.2.2.2.2.2.2.2.2.2.2.1, o64.2.2.2.2.2.2.2.2.2.2.2) (i + 1))) else some (-1, zx9 x o.2 f)))))) else some (i, zx9 x o.2 f)))) := by
  subst ef
  exact FX5_relocateUntilRoom_L2_s m V x1 x2 _ _ _ _ _ _ _ _ _ _ _ _ _ i
section RY
variable {M V : az_St} {n z t : Nat}
theorem rel_loop (V : az_St) (M : az_St) {rule : Nat} (hrule : rule ≤ 2) (wr : Int32) : ∀ (d i : Nat), i + d = 21 → ∀ (x : z13) (w : Nat → Int32) (e : Nat) (u : Nat → Nat), e + 2 * d < 100000 → zR (zV13 V x) w → zI n z e t u (zV13 V x) → ∃ (r : Int32) (y : z13) (a' : Nat → Int32), (∀ m, d < m → FRU m V (nI rule) wr x (nI i) = some (r, y)) ∧ (∀ m, d < m → FX7_relocationsNow_L24 m M (nI rule) wr w (nI i) = some (r, a')) := by
  intro d
  induction d with
  | zero =>
    intro i hi x w e u _ _ _
    refine ⟨-1, x, w, fun m hm => ?_, fun m hm => ?_⟩
    · obtain ⟨m, rfl⟩ : ∃ q, m = q + 1 := ⟨m - 1, by omega⟩
      rw [FRU_s m V _ _ x _ _ rfl, if_pos (by rw [show (20 : Int32) = nI 20 from rfl, zlt (by omega) (by omega)]; omega)]
    · obtain ⟨m, rfl⟩ : ∃ q, m = q + 1 := ⟨m - 1, by omega⟩
      rw [FX7_relocationsNow_L24_s, if_pos (by rw [show (20 : Int32) = nI 20 from rfl, zlt (by omega) (by omega)]; omega)]
  | succ d ih =>
    intro i hi x w e u he hR hI
    have hn := hI.D.n10
    have hz := hI.D.z12
    obtain ⟨f, ef⟩ : ∃ f, f = upd x.2.2.2.2.2.2.2.2.2.2.2.2 1 (x.2.2.2.2.2.2.2.2.2.2.2.2 1 + 2) := ⟨_, rfl⟩
    have hf1 : x.2.2.2.2.2.2.2.2.2.2.2.2 1 = nI e := hI.T.1
    have hfe : f = upd ((zV13 V x) 16) 1 (nI (e + 2)) := by
      rw [ef, hf1]
      exact congrArg (fun q => upd ((zV13 V x) 16) 1 q) (zadd e 2)
    obtain ⟨x0, ex0⟩ : ∃ x0 : z13, x0 = (x.1, x.2.1, x.2.2.1, x.2.2.2.1, x.2.2.2.2.1, x.2.2.2.2.2.1, x.2.2.2.2.2.2.1, x.2.2.2.2.2.2.2.1, x.2.2.2.2.2.2.2.2.1, x.2.2.2.2.2.2.2.2.2.1, x.2.2.2.2.2.2.2.2.2.2.1, x.2.2.2.2.2.2.2.2.2.2.2.1, f) := ⟨_, rfl⟩
    have q0 : ∀ c, c < 17 → zV13 V x0 c = va_up (zV13 V x) 16 (upd ((zV13 V x) 16) 1 (nI (e + 2))) c := by
      rw [ex0, hfe]
      exact zc17 rfl rfl rfl rfl rfl rfl rfl rfl rfl rfl rfl rfl rfl rfl rfl rfl rfl
    have w3 : w 3 = nI e := (hR.1.2.2.2.1).trans hI.T.1
    have r0 : zR (zV13 V x0) (upd w 3 (nI (e + 2))) := zR_e (zR_num (j := 1) (i := 3) hR (by omega) _) q0
    have i0 : zI n z (e + 2) t u (zV13 V x0) := zI_e (zI_epoch hI (by omega) (by omega)) q0
    obtain ⟨r9, a1, u1, c1, m1, r1, i1, -, -⟩ := reg_both (M := va_up M 0 (upd w 3 (nI (e + 2)))) r0 i0
    obtain ⟨x2, ex2⟩ : ∃ x2 : z13, x2 = zx9 x r9 f := ⟨_, rfl⟩
    have q2 : ∀ c, c < 17 → zV13 V x2 c = zV9 (zV13 V x0) r9 c := by
      rw [ex2, ex0]
      exact zc17 rfl rfl rfl rfl rfl rfl rfl rfl rfl rfl rfl rfl rfl rfl rfl rfl rfl
    have r2 : zR (zV13 V x2) ((va_up M 0 a1) 0) := zR_e r1 q2
    have i2 : zI n z (e + 2) t u1 (zV13 V x2) := zI_e i1 q2
    have croom := c_room i2.D i2.S i2.H
    have mroom := m_roomNow r2 i2.D i2.S i2.H
    have cch := c_choose i2 hrule
    have mch := m_chosen r2 i2 hrule
    have hc3 : w 3 + (2 : Int32) = nI (e + 2) := by rw [w3]; exact zadd e 2
    have hstepC : ∀ m, FRU (m + 1) V (nI rule) wr x (nI i) = ((some (nI (zcnt 160 (zwd (zV13 V x0) (e + 2) 0)), r9) : Option (Int32 × z9)).bind (fun o => (FX5_roomForWrites (zV13 V (zx9 x o.2 f))).bind (fun o24 => if o24 < wr then ((FX5_chooseVictim (zV13 V (zx9 x o.2 f)) (nI rule)).bind (fun o35 => if o35 = -1 then some (-1, zx9 x o.2 f) else ((FX5_useOf (zV13 V (zx9 x o.2 f)) o35).bind (fun o49 => (FX5_roomForRelocation (zV13 V (zx9 x o.2 f))).bind (fun o53 => if o49 ≤ o53 then ((FX5_moveAll (zV13 V (zx9 x o.2 f)) o35).bind (fun o64 => FRU m V (nI rule) wr (o64.2.1, o.2.2.1, o64.2.2.1, o64.2.2.2.1, o64.2.2.2.2.1, o64.2.2.2.2.2.1, o64.2.2.2.2.2.2.1, o64.2.2.2.2.2.2.2.1, o64.2.2.2.2.2.2.2.2.1, o.2.2.2.2.2.2.2.2.2, o64.2.2.2.2.2.2.2.2.2.1, o64.2.2.2.2.2.2.2.2.2.2.1, o64.2.2.2.2.2.2.2.2.2.2.2) (nI i + 1))) else some (-1, zx9 x o.2 f)))))) else some (nI i, zx9 x o.2 f)))) := by
      intro m
      rw [FRU_s m V _ _ x _ f ef, if_neg (by rw [show (20 : Int32) = nI 20 from rfl, zlt (by omega) (by omega)]; omega), ← ex0, c1]
    have hstepM : ∀ m, FX7_relocationsNow_L24 (m + 1) M (nI rule) wr w (nI i) = (FX7_roomNow (va_up M 0 a1)).bind (fun o47 => if o47 < wr then ((FX7_chosen (va_up M 0 a1) (nI rule)).bind (fun o58 => if o58 = -1 then (some (-1, a1)) else ((FX7_hasRoom (va_up M 0 a1) o58).bind (fun o72 => if o72 = 0 then (some (-1, a1)) else ((FX7_relocates (va_up M 0 a1) o58).bind (fun o83 => FX7_relocationsNow_L24 m M (nI rule) wr o83.2 (nI i + 1))))))) else (some (nI i, a1))) := by
      intro m
      rw [FX7_relocationsNow_L24_s, if_neg (by rw [show (20 : Int32) = nI 20 from rfl, zlt (by omega) (by omega)]; omega)]
      unfold az_lt
      dsimp only
      rw [show w (3 : Int32).toNatClampNeg + 2 = nI (e + 2) from hc3, show (3 : Int32).toNatClampNeg = 3 from rfl, m1, Option.bind_some]
    by_cases hwr : nI (zroom n z u1 ((zV13 V x2) 0) ((zV13 V x2) 3)) < wr
    · rcases zvi_at (zV13 V x2) z u1 rule n with hv | ⟨hv1, hv2, hv3⟩
      · have ev : zvI (zvi (zV13 V x2) z u1 rule n) = -1 := by rw [hv]; rfl
        refine ⟨-1, x2, a1, fun m hm => ?_, fun m hm => ?_⟩
        · obtain ⟨m, rfl⟩ : ∃ q, m = q + 1 := ⟨m - 1, by omega⟩
          rw [hstepC m, Option.bind_some]
          dsimp only
          rw [← ex2, croom, Option.bind_some, if_pos hwr, cch, Option.bind_some, if_pos ev]
        · obtain ⟨m, rfl⟩ : ∃ q, m = q + 1 := ⟨m - 1, by omega⟩
          rw [hstepM m, mroom, Option.bind_some, if_pos hwr, mch, Option.bind_some, if_pos ev]
      · obtain ⟨s, es⟩ : ∃ s, s = zvi (zV13 V x2) z u1 rule n := ⟨_, rfl⟩
        rw [← es] at hv1 hv2 hv3
        have ev : zvI (zvi (zV13 V x2) z u1 rule n) = nI s := by rw [← es]; exact if_neg (by omega)
        have hs10 : s < 10 := by omega
        have b1 := zuse_le ((zV13 V x2) 5) s z
        have b2 := zfree_le n ((zV13 V x2) 0)
        have b3 := zun_le z u1 ((zV13 V x2) 3 1)
        have b4 : zfree n ((zV13 V x2) 0) * z ≤ 10 * 12 := Nat.mul_le_mul (by omega) hz
        have b5 : zroom2 n z u1 ((zV13 V x2) 0) ((zV13 V x2) 3) ≤ 132 := by unfold zroom2; omega
        have cuse := c_useOf (V := zV13 V x2) i2.D hs10
        have croom2 := c_room2 i2.D i2.S i2.H
        have mhas := m_hasRoom r2 i2 hs10
        by_cases hroom : zuse ((zV13 V x2) 5) s z ≤ zroom2 n z u1 ((zV13 V x2) 0) ((zV13 V x2) 3)
        · obtain ⟨r11, a2, u2, c3, m3, r3, i3, -, -⟩ := mov_both (M := va_up M 0 a1) r2 i2 hs10 hv2 hroom
          obtain ⟨g, eg⟩ : ∃ g, g = upd ((zV13 V x2) 16) 5 ((zV13 V x2) 16 5 + nI (zuse ((zV13 V x2) 5) s z)) := ⟨_, rfl⟩
          rw [← eg] at c3
          have a7 : a2 7 = (zV13 V x2) 16 5 := r3.1.2.2.2.2.2.2.2.1
          rw [a7] at m3
          obtain ⟨x4, ex4⟩ : ∃ x4 : z13, x4 = (r11.1, r9.2.1, r11.2.1, r11.2.2.1, r11.2.2.2.1, r11.2.2.2.2.1, r11.2.2.2.2.2.1, r11.2.2.2.2.2.2.1, r11.2.2.2.2.2.2.2.1, r9.2.2.2.2.2.2.2.2, r11.2.2.2.2.2.2.2.2.1, r11.2.2.2.2.2.2.2.2.2, g) := ⟨_, rfl⟩
          have q4 : ∀ c, c < 17 → zV13 V x4 c = va_up (zV11 (zV13 V x2) r11) 16 (upd ((zV11 (zV13 V x2) r11) 16) 5 ((zV13 V x2) 16 5 + nI (zuse ((zV13 V x2) 5) s z))) c := by
            rw [ex4, eg, ex2]
            exact zc17 rfl rfl rfl rfl rfl rfl rfl rfl rfl rfl rfl rfl rfl rfl rfl rfl rfl
          have r4 : zR (zV13 V x4) (upd a2 7 ((zV13 V x2) 16 5 + nI (zuse ((zV13 V x2) 5) s z))) := zR_e (zR_num (j := 5) (i := 7) r3 (by omega) _) q4
          have i4 : zI n z (e + 2) t u2 (zV13 V x4) := zI_e (zI_num i3 (by decide) (by decide) _) q4
          obtain ⟨r, y, a', k1, k2⟩ := ih (i + 1) (by omega) x4 _ (e + 2) u2 (by omega) r4 i4
          refine ⟨r, y, a', fun m hm => ?_, fun m hm => ?_⟩
          · obtain ⟨m, rfl⟩ : ∃ q, m = q + 1 := ⟨m - 1, by omega⟩
            rw [hstepC m, Option.bind_some]
            dsimp only
            rw [← ex2, croom, Option.bind_some, if_pos hwr, cch, Option.bind_some, ev, if_neg (znm (by omega)), cuse, Option.bind_some, croom2, Option.bind_some, if_pos ((zle (by omega) (by omega)).mpr hroom), c3, Option.bind_some]
            dsimp only
            rw [← ex4, zs i]
            exact k1 m (by omega)
          · obtain ⟨m, rfl⟩ : ∃ q, m = q + 1 := ⟨m - 1, by omega⟩
            rw [hstepM m, mroom, Option.bind_some, if_pos hwr, mch, Option.bind_some, ev, if_neg (znm (by omega)), mhas, Option.bind_some, zb1, if_pos hroom, m3, Option.bind_some, zs i]
            exact k2 m (by omega)
        · refine ⟨-1, x2, a1, fun m hm => ?_, fun m hm => ?_⟩
          · obtain ⟨m, rfl⟩ : ∃ q, m = q + 1 := ⟨m - 1, by omega⟩
            rw [hstepC m, Option.bind_some]
            dsimp only
            rw [← ex2, croom, Option.bind_some, if_pos hwr, cch, Option.bind_some, ev, if_neg (znm (by omega)), cuse, Option.bind_some, croom2, Option.bind_some, if_neg (by rw [zle (by omega) (by omega)]; exact hroom)]
          · obtain ⟨m, rfl⟩ : ∃ q, m = q + 1 := ⟨m - 1, by omega⟩
            rw [hstepM m, mroom, Option.bind_some, if_pos hwr, mch, Option.bind_some, ev, if_neg (znm (by omega)), mhas, Option.bind_some, zb1, if_neg hroom]
    · refine ⟨nI i, x2, a1, fun m hm => ?_, fun m hm => ?_⟩
      · obtain ⟨m, rfl⟩ : ∃ q, m = q + 1 := ⟨m - 1, by omega⟩
        rw [hstepC m, Option.bind_some]
        dsimp only
        rw [← ex2, croom, Option.bind_some, if_neg hwr]
      · obtain ⟨m, rfl⟩ : ∃ q, m = q + 1 := ⟨m - 1, by omega⟩
        rw [hstepM m, mroom, Option.bind_some, if_neg hwr]
/-! the readers leave, in thought -/
def zhb (a : Nat → Int32) (r : Nat) : Nat → Int32
  | 0 => 0
  | s + 1 => zhb a r s + nI (zcnt 16 (fun b => (a (964 + 12 * r + (2 + s))).toNatClampNeg.testBit b))
theorem m_heldBy_w {r : Nat} (hr : r < 6) (hm : ∀ s, s < 10 → ∃ m, m < 65536 ∧ M 0 (964 + 12 * r + (2 + s)) = nI m) : FX7_heldBy M (nI r) = some (zhb (M 0) r 10) := by
  unfold FX7_heldBy
  refine for0 (fun m s y => FX7_heldBy_L4 m M (nI r) s y) (fun j => zhb (M 0) r j) 10 (fun m j hj => ?_) (fun m => ?_) _ (zfu (by omega))
  · obtain ⟨x, hx, e⟩ := hm j hj
    rw [FX7_heldBy_L4_s, if_neg (by rw [show (10 : Int32) = nI 10 from rfl, zle (by omega) (by omega)]; omega), zp2, m_rdr M hr (by omega), Option.bind_some]
    simp only [zhb]
    rw [e, c_bitCount hx, Option.bind_some, zs j, zc (by omega)]
  · rw [FX7_heldBy_L4_s, if_pos (by decide)]
theorem m_lets_w {r : Nat} (hr : r < 6) (hm : ∀ s, s < 10 → ∃ m, m < 65536 ∧ M 0 (964 + 12 * r + (2 + s)) = nI m) (st : Int32) : FX7_lets M (nI r) st = some (zhb (M 0) r 10, zlet (M 0) r st) := by
  unfold FX7_lets
  rw [m_heldBy_w hr hm, Option.bind_some]
  obtain ⟨c, ec⟩ : ∃ c, c = zhb (M 0) r 10 := ⟨_, rfl⟩
  rw [← ec]
  have key := for0 (fun m (s : Nat → Int32) y => FX7_lets_L9 m M (nI r) st s c y) (fun j => zput (M 0) (964 + 12 * r + 2) j 0) 10 (r := some (c, zlet (M 0) r st)) (fun m j hj => ?_) (fun m => ?_) az_fuel (zfu (by omega))
  · try dsimp only at key
    rw [zput_0] at key
    exact key
  · try dsimp only
    rw [FX7_lets_L9_s, if_neg (by rw [show (10 : Int32) = nI 10 from rfl, zle (by omega) (by omega)]; omega), zp2, m_setRdr _ hr (by omega), Option.bind_some, zs j, ← zput_s, zup_s, show 964 + 12 * r + (2 + j) = 964 + 12 * r + 2 + j by omega]
  · try dsimp only
    rw [FX7_lets_L9_s, if_pos (by decide), show FX7_setReader (va_up M 0 (zput (M 0) (964 + 12 * r + 2) 10 0)) (nI r) 0 st = some (upd (zput (M 0) (964 + 12 * r + 2) 10 0) (964 + 12 * r) st) from m_setRdr _ (w := 0) hr (by omega) _, Option.bind_some]
    rw [show FX7_setReader (va_up M 0 (upd (zput (M 0) (964 + 12 * r + 2) 10 0) (964 + 12 * r) st)) (nI r) 1 (upd (zput (M 0) (964 + 12 * r + 2) 10 0) (964 + 12 * r) st (3 : Int32).toNatClampNeg) = some (upd (upd (zput (M 0) (964 + 12 * r + 2) 10 0) (964 + 12 * r) st) (964 + 12 * r + 1) (upd (zput (M 0) (964 + 12 * r + 2) 10 0) (964 + 12 * r) st 3)) from m_setRdr _ (w := 1) hr (by omega) _, Option.bind_some]
    unfold zlet
    rw [zupd_n (f := zput (M 0) (964 + 12 * r + 2) 10 0) (j := 3) (by omega), show zput (M 0) (964 + 12 * r + 2) 10 0 3 = M 0 3 from if_neg (by omega)]
theorem zlet_o {a : Nat → Int32} {r i : Nat} {st : Int32} (h : i < 964 + 12 * r ∨ 964 + 12 * r + 12 ≤ i) : zlet a r st i = a i := by
  unfold zlet
  rw [zupd_n (by omega), zupd_n (by omega)]
  exact if_neg (by omega)
/-- how many relocations, in thought: the same on both sides -/
theorem rel_both {e : Nat} {u : Nat → Nat} {v10 v11 v12 : Nat → Int32} (hR : zR V (M 0)) (hI : zI n z e t u V) (hH : zH v10 v11 v12 (M 0)) {rule : Nat} (hrule : rule ≤ 2) (wr : Int32) (he : e < 90000) : ∃ (r : Int32) (y : z13) (a' : Nat → Int32), FX5_relocateUntilRoom V (nI rule) wr = some (r, y) ∧ FX7_relocationsNow M (nI rule) wr = some (r, a') := by
  have lets : ∃ w : Nat → Int32, (∀ i, i < 964 → w i = M 0 i) ∧ FX7_relocationsNow M (nI rule) wr = FX7_relocationsNow_L24 az_fuel M (nI rule) wr w 0 := by
    have h2 := for2 (fun m (_ : Unit) (_ : Int32) => (none : Option Unit)) (fun m (w : Nat → Int32) y => FX7_relocationsNow_L2 m M (nI rule) wr w y) (fun j _ w => ∀ i, (i < 964 ∨ 964 + 12 * j ≤ i) → w i = M 0 i) 0 6 (fun j hj _ w hw => ?_) () (M 0) (fun _ _ => rfl)
    · obtain ⟨-, w, hw, -, g⟩ := h2
      refine ⟨w, fun i hi => hw i (Or.inl hi), ?_⟩
      unfold FX7_relocationsNow
      have e2 : FX7_relocationsNow_L2 (9993 + 1) M (nI rule) wr w (nI (0 + 6)) = FX7_relocationsNow_L24 az_fuel M (nI rule) wr w 0 := by
        rw [FX7_relocationsNow_L2_s, if_pos (by decide)]
      have hf : az_fuel = 6 + (9993 + 1) := rfl
      have := (g (9993 + 1)).trans e2
      rw [← hf] at this
      exact this
    · refine ⟨(), zlet w j 0, fun i hi => ?_, fun _ => rfl, fun m => ?_⟩
      · rw [zlet_o (by omega)]
        exact hw i (by omega)
      · rw [Nat.zero_add, FX7_relocationsNow_L2_s, if_neg (by rw [show (6 : Int32) = nI 6 from rfl, zle (by omega) (by omega)]; omega), m_lets_w (M := va_up M 0 w) hj (fun s hs => ?_), Option.bind_some, zs j]
        · rfl
        · obtain ⟨m', h1, h3, -⟩ := (hH j hj).2.2 s hs
          exact ⟨m', h1, by rw [zup_s, hw _ (by omega)]; exact h3⟩
  obtain ⟨w, hw, ew⟩ := lets
  obtain ⟨r, y, a', k1, k2⟩ := rel_loop (n := n) (z := z) (t := t) V M hrule wr 21 0 rfl (V 0, V 1, V 2, V 3, V 5, V 6, V 7, V 8, V 9, V 10, V 14, V 15, V 16) w e u (by omega) (zR_e (zR_c hR hw) (zc17 rfl rfl rfl rfl rfl rfl rfl rfl rfl rfl rfl rfl rfl rfl rfl rfl rfl)) (zI_e hI (zc17 rfl rfl rfl rfl rfl rfl rfl rfl rfl rfl rfl rfl rfl rfl rfl rfl rfl))
  refine ⟨r, y, a', ?_, ?_⟩
  · exact k1 az_fuel (zfu (by omega))
  · rw [ew]
    exact k2 az_fuel (zfu (by omega))
end RY
