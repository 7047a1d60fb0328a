/-! THE RELATION UNDER CHANGES -/
section OP
variable {M V : az_St} {a b : Nat → Int32} {n z e t : Nat} {u : Nat → Nat} {k s i : Nat} {x : Int32}
theorem m_setBlk0 (hk : k < 160) (x : Int32) (M : az_St) : FX7_setBlock M (nI k) 0 x = some (upd (M 0) (40 + 5 * k) x) := m_setBlk M (w := 0) hk (by omega) x
theorem m_setBlk1 (hk : k < 160) (x : Int32) (M : az_St) : FX7_setBlock M (nI k) 1 x = some (upd (M 0) (40 + 5 * k + 1) x) := m_setBlk M (w := 1) hk (by omega) x
theorem m_setBlk2 (hk : k < 160) (x : Int32) (M : az_St) : FX7_setBlock M (nI k) 2 x = some (upd (M 0) (40 + 5 * k + 2) x) := m_setBlk M (w := 2) hk (by omega) x
theorem m_setBlk3 (hk : k < 160) (x : Int32) (M : az_St) : FX7_setBlock M (nI k) 3 x = some (upd (M 0) (40 + 5 * k + 3) x) := m_setBlk M (w := 3) hk (by omega) x
theorem m_setBlk4 (hk : k < 160) (x : Int32) (M : az_St) : FX7_setBlock M (nI k) 4 x = some (upd (M 0) (40 + 5 * k + 4) x) := m_setBlk M (w := 4) hk (by omega) x
theorem m_setSeg0 (hs : s < 10) (x : Int32) (M : az_St) : FX7_setSegment M (nI s) 0 x = some (upd (M 0) (10 + 3 * s) x) := m_setSeg M (w := 0) hs (by omega) x
theorem m_setSeg1 (hs : s < 10) (x : Int32) (M : az_St) : FX7_setSegment M (nI s) 1 x = some (upd (M 0) (10 + 3 * s + 1) x) := m_setSeg M (w := 1) hs (by omega) x
theorem m_setSeg2 (hs : s < 10) (x : Int32) (M : az_St) : FX7_setSegment M (nI s) 2 x = some (upd (M 0) (10 + 3 * s + 2) x) := m_setSeg M (w := 2) hs (by omega) x
theorem m_getSeg1 (hs : s < 10) (M : az_St) : FX7_ofSegment M (nI s) 1 = some (M 0 (10 + 3 * s + 1)) := m_seg M (w := 1) hs (by omega)
theorem m_getSeg2 (hs : s < 10) (M : az_St) : FX7_ofSegment M (nI s) 2 = some (M 0 (10 + 3 * s + 2)) := m_seg M (w := 2) hs (by omega)
theorem zN_c {v3 v4 v16 : Nat → Int32} (h : zN v3 v4 v16 a) (c : ∀ i, i < 10 → b i = a i) : zN v3 v4 v16 b := by
  unfold zN at h ⊢
  rw [c 0 (by omega), c 1 (by omega), c 2 (by omega), c 3 (by omega), c 4 (by omega), c 5 (by omega), c 6 (by omega), c 7 (by omega), c 8 (by omega), c 9 (by omega)]
  exact h
theorem zS_c {v0 v1 v2 : Nat → Int32} (h : zS v0 v1 v2 a) (c : ∀ i, 10 ≤ i → i < 40 → b i = a i) : zS v0 v1 v2 b := by
  intro s hs
  rw [c _ (by omega) (by omega), c _ (by omega) (by omega), c _ (by omega) (by omega)]
  exact h s hs
theorem zB_c {v5 v6 v7 v8 v9 : Nat → Int32} (h : zB v5 v6 v7 v8 v9 a) (c : ∀ i, 40 ≤ i → i < 840 → b i = a i) : zB v5 v6 v7 v8 v9 b := by
  intro k hk
  rw [c (40 + 5 * k) (by omega) (by omega), c (40 + 5 * k + 1) (by omega) (by omega), c (40 + 5 * k + 2) (by omega) (by omega), c (40 + 5 * k + 3) (by omega) (by omega), c (40 + 5 * k + 4) (by omega) (by omega)]
  exact h k hk
theorem zL_c {v15 : Nat → Int32} (h : zL v15 a) (c : ∀ i, 840 ≤ i → i < 864 → b i = a i) : zL v15 b := by
  intro y hy
  rw [c _ (by omega) (by omega)]
  exact h y hy
theorem zT_c {v13 : Nat → Int32} (h : zT v13 a) (c : ∀ i, 864 ≤ i → i < 868 → b i = a i) : zT v13 b := by
  intro y hy
  rw [c _ (by omega) (by omega)]
  exact h y hy
theorem zW_c {v14 : Nat → Int32} (h : zW v14 a) (c : ∀ i, 868 ≤ i → i < 964 → b i = a i) : zW v14 b := by
  intro y hy
  rw [c _ (by omega) (by omega)]
  exact h y hy
theorem zH_c {v10 v11 v12 : Nat → Int32} (h : zH v10 v11 v12 a) (c : ∀ i, 964 ≤ i → i < 1036 → b i = a i) : zH v10 v11 v12 b := by
  intro r hr
  obtain ⟨h1, h2, h3⟩ := h r hr
  refine ⟨by rw [c _ (by omega) (by omega)]; exact h1, fun h4 => by rw [c _ (by omega) (by omega)]; exact h2 h4, fun s hs => ?_⟩
  rw [c _ (by omega) (by omega)]
  exact h3 s hs
theorem zR_c (h : zR V a) (c : ∀ i, i < 964 → b i = a i) : zR V b :=
  ⟨zN_c h.N (fun i hi => c i (by omega)), zS_c h.S (fun i _ hi => c i (by omega)), zB_c h.B (fun i _ hi => c i (by omega)), zL_c h.L (fun i _ hi => c i (by omega)), zT_c h.T (fun i _ hi => c i (by omega)), zW_c h.W (fun i _ hi => c i (by omega))⟩
/-- the live table -/
theorem zR_live (h : zR V a) {y : Nat} (hy : y < 24) (x : Int32) : zR (va_up V 15 (upd (V 15) y x)) (upd a (840 + y) x) := by
  refine ⟨zN_c h.N (fun i hi => zupd_n (by omega)), zS_c h.S (fun i _ hi => zupd_n (by omega)), zB_c h.B (fun i _ hi => zupd_n (by omega)), ?_, zT_c h.T (fun i _ hi => zupd_n (by omega)), zW_c h.W (fun i _ hi => zupd_n (by omega))⟩
  intro q hq
  show upd a (840 + y) x (840 + q) = upd (V 15) y x q
  rw [zupd, zupd]
  by_cases c : q = y
  · rw [if_pos c, if_pos (by omega)]
  · rw [if_neg c, if_neg (by omega), h.L q hq]
/-- a row's entry -/
theorem zR_row (h : zR V a) {j : Nat} (hj : j < 96) (x : Int32) : zR (va_up V 14 (upd (V 14) j x)) (upd a (868 + j) x) := by
  refine ⟨zN_c h.N (fun i hi => zupd_n (by omega)), zS_c h.S (fun i _ hi => zupd_n (by omega)), zB_c h.B (fun i _ hi => zupd_n (by omega)), zL_c h.L (fun i _ hi => zupd_n (by omega)), zT_c h.T (fun i _ hi => zupd_n (by omega)), ?_⟩
  intro q hq
  show upd a (868 + j) x (868 + q) = upd (V 14) j x q
  rw [zupd, zupd]
  by_cases c : q = j
  · rw [if_pos c, if_pos (by omega)]
  · rw [if_neg c, if_neg (by omega), h.W q hq]
theorem zR_taken (h : zR V a) (hs : s < 4) (x : Int32) : zR (va_up V 13 (upd (V 13) s x)) (upd a (864 + s) x) := by
  refine ⟨zN_c h.N (fun i hi => zupd_n (by omega)), zS_c h.S (fun i _ hi => zupd_n (by omega)), zB_c h.B (fun i _ hi => zupd_n (by omega)), zL_c h.L (fun i _ hi => zupd_n (by omega)), ?_, zW_c h.W (fun i _ hi => zupd_n (by omega))⟩
  intro q hq
  show upd a (864 + s) x (864 + q) = upd (V 13) s x q
  rw [zupd, zupd]
  by_cases c : q = s
  · rw [if_pos c, if_pos (by omega)]
  · rw [if_neg c, if_neg (by omega), h.T q hq]
/-- the state of a block that is in use -/
theorem zB_st {v5 v6 v7 v8 v9 : Nat → Int32} (h : zB v5 v6 v7 v8 v9 a) (hk : k < 160) (h0 : v5 k ≠ 0) (hx : x ≠ 3) : zB (upd v5 k x) v6 v7 v8 v9 (upd a (40 + 5 * k) x) := by
  intro q hq
  obtain ⟨h1, h2, h3⟩ := h q hq
  rw [zupd_n (f := a) (j := 40 + 5 * q + 1) (by omega), zupd_n (f := a) (j := 40 + 5 * q + 2) (by omega), zupd_n (f := a) (j := 40 + 5 * q + 3) (by omega), zupd_n (f := a) (j := 40 + 5 * q + 4) (by omega)]
  by_cases c : q = k
  · subst c
    rw [zupd_s, zupd_s]
    exact ⟨rfl, fun _ => h2 h0, fun c => absurd c hx⟩
  · rw [zupd_n (f := a) (j := 40 + 5 * q) (by omega), zupd_n (f := v5) c]
    exact ⟨h1, h2, h3⟩
theorem zR_st (h : zR V a) (hk : k < 160) (h0 : V 5 k ≠ 0) (hx : x ≠ 3) : zR (va_up V 5 (upd (V 5) k x)) (upd a (40 + 5 * k) x) :=
  ⟨zN_c h.N (fun i hi => zupd_n (by omega)), zS_c h.S (fun i _ hi => zupd_n (by omega)), zB_st h.B hk h0 hx, zL_c h.L (fun i _ hi => zupd_n (by omega)), zT_c h.T (fun i _ hi => zupd_n (by omega)), zW_c h.W (fun i _ hi => zupd_n (by omega))⟩
/-- a block that begins to wait -/
theorem zB_wait {v5 v6 v7 v8 v9 : Nat → Int32} (h : zB v5 v6 v7 v8 v9 a) (hk : k < 160) (h0 : v5 k ≠ 0) : zB (upd v5 k 3) v6 v7 v8 (upd v9 k x) (upd (upd a (40 + 5 * k) 3) (40 + 5 * k + 4) x) := by
  intro q hq
  obtain ⟨h1, h2, h3⟩ := h q hq
  rw [zupd_n (j := 40 + 5 * q + 1) (by omega), zupd_n (j := 40 + 5 * q + 2) (by omega), zupd_n (j := 40 + 5 * q + 3) (by omega), zupd_n (j := 40 + 5 * q + 1) (by omega), zupd_n (j := 40 + 5 * q + 2) (by omega), zupd_n (j := 40 + 5 * q + 3) (by omega), zupd_n (k := 40 + 5 * k + 4) (j := 40 + 5 * q) (by omega)]
  by_cases c : q = k
  · subst c
    rw [zupd_s, zupd_s, zupd_s, zupd_s]
    exact ⟨rfl, fun _ => h2 h0, fun _ => rfl⟩
  · rw [zupd_n (k := 40 + 5 * k) (j := 40 + 5 * q) (by omega), zupd_n (k := 40 + 5 * k + 4) (j := 40 + 5 * q + 4) (by omega), zupd_n (k := 40 + 5 * k) (j := 40 + 5 * q + 4) (by omega), zupd_n c, zupd_n c]
    exact ⟨h1, h2, h3⟩
theorem zR_wait (h : zR V a) (hk : k < 160) (h0 : V 5 k ≠ 0) : zR (va_up (va_up V 5 (upd (V 5) k 3)) 9 (upd (V 9) k x)) (upd (upd a (40 + 5 * k) 3) (40 + 5 * k + 4) x) :=
  ⟨zN_c h.N (fun i hi => by rw [zupd_n (by omega), zupd_n (by omega)]), zS_c h.S (fun i _ hi => by rw [zupd_n (by omega), zupd_n (by omega)]), zB_wait h.B hk h0, zL_c h.L (fun i _ hi => by rw [zupd_n (by omega), zupd_n (by omega)]), zT_c h.T (fun i _ hi => by rw [zupd_n (by omega), zupd_n (by omega)]), zW_c h.W (fun i _ hi => by rw [zupd_n (by omega), zupd_n (by omega)])⟩
theorem m_waits (hk : k < 160) (M : az_St) : FX7_waits M (nI k) = some (upd (upd (M 0) (40 + 5 * k) 3) (40 + 5 * k + 4) (M 0 3)) := by
  unfold FX7_waits
  rw [m_setBlk0 hk, Option.bind_some, m_setBlk4 hk, Option.bind_some, zup_s]
  congr 2
  exact zupd_n (by show 3 ≠ _; omega)
/-! the live block of a key is that no more -/
def d5 (V : az_St) (y : Nat) : Nat → Int32 := if V 15 y = -1 then V 5 else if 0 < zcnt 4 (zhs (V 14) y (V 15 y).toNatClampNeg) then upd (V 5) (V 15 y).toNatClampNeg 2 else upd (V 5) (V 15 y).toNatClampNeg 3
def d9 (V : az_St) (y : Nat) : Nat → Int32 := if V 15 y = -1 then V 9 else if 0 < zcnt 4 (zhs (V 14) y (V 15 y).toNatClampNeg) then V 9 else upd (V 9) (V 15 y).toNatClampNeg (V 16 1)
def zdrop (V : az_St) (y : Nat) : az_St := va_up (va_up (va_up V 5 (d5 V y)) 9 (d9 V y)) 15 (upd (V 15) y (-1))
theorem c_dropLive (hL : iL (V 5) (V 6) (V 15)) {y : Nat} (hy : y < 24) : FX5_dropLive V (nI y) = some (V 15 y, d5 V y, d9 V y, upd (V 15) y (-1)) := by
  unfold FX5_dropLive d5 d9 az_lt
  rw [if_pos (zin hy (by omega)), zc (by omega)]
  rcases hL y hy with h | ⟨p, hp, h, h1, h2⟩
  · rw [if_pos h, if_pos h, if_pos h]
  · rw [h, if_neg (znm (by omega)), if_neg (znm (by omega)), if_neg (znm (by omega)), c_anyHas hy, Option.bind_some, zb1, zc (by omega), if_pos (zin hp (by omega))]
    have e14 : (va_up V 15 (upd (V 15) y (-1))) 14 = V 14 := rfl
    rw [e14]
    by_cases hc : 0 < zcnt 4 (zhs (V 14) y p)
    · rw [if_pos hc, if_pos hc, if_pos hc]
    · rw [if_neg hc, if_neg hc, if_neg hc, c_beginToWait hp, Option.bind_some]
      rfl
theorem m_ends (hR : zR V (M 0)) (hL : iL (V 5) (V 6) (V 15)) (hW : iW (V 5) (V 6) (V 13) (V 14)) {y : Nat} (hy : y < 24) : ∃ a', FX7_ends M (nI y) = some a' ∧ zR (zdrop V y) a' ∧ ∀ i, 964 ≤ i → a' i = M 0 i := by
  unfold FX7_ends az_lt
  rw [zp840, if_pos (zin (by omega) (by omega)), zc (by omega), hR.L y hy]
  dsimp only
  have h15 := zR_live hR hy (-1)
  rcases hL y hy with h | ⟨p, hp, h, h1, h2⟩
  · refine ⟨_, if_pos h, ?_, fun i hi => zupd_n (by omega)⟩
    have e5 : d5 V y = V 5 := if_pos h
    have e9 : d9 V y = V 9 := if_pos h
    unfold zdrop
    rw [e5, e9]
    exact h15
  · have h0 : ¬ V 5 p = 0 := by rw [h1]; decide
    have eb0 : (va_up M 0 (upd (M 0) (840 + y) (-1))) 0 (40 + 5 * p) = V 5 p := by
      rw [zup_s, zupd_n (by omega), (hR.B p hp).1]
    have eb1 : (va_up M 0 (upd (M 0) (840 + y) (-1))) 0 (40 + 5 * p + 1) = nI y := by
      rw [zup_s, zupd_n (by omega), ((hR.B p hp).2.1 h0).1, h2]
    have snap : FX7_snapshotsOf (va_up M 0 (upd (M 0) (840 + y) (-1))) (nI p) = some (zor 4 (zhs (V 14) y p)) := by
      rw [m_snapOf_g (M := va_up M 0 (upd (M 0) (840 + y) (-1))) (v13 := V 13) (v14 := V 14) h15.T h15.W hp hy (by rw [eb0]; exact h0) eb1, zor_congr (fun s hs => hW.th hy hp hs)]
    rw [h, if_neg (znm (by omega)), snap, Option.bind_some]
    have e5 : d5 V y = if 0 < zcnt 4 (zhs (V 14) y p) then upd (V 5) p 2 else upd (V 5) p 3 := by
      unfold d5
      rw [h, if_neg (znm (by omega)), zc (by omega)]
    have e9 : d9 V y = if 0 < zcnt 4 (zhs (V 14) y p) then V 9 else upd (V 9) p (V 16 1) := by
      unfold d9
      rw [h, if_neg (znm (by omega)), zc (by omega)]
    unfold zdrop
    rw [e5, e9]
    by_cases hc : 0 < zcnt 4 (zhs (V 14) y p)
    · rw [if_neg (fun c => by have := (zor4 _).1.mp c; omega), m_setBlk0 hp, Option.bind_some, zup_s, if_pos hc, if_pos hc]
      refine ⟨_, rfl, ?_, fun i hi => by rw [zupd_n (by omega), zupd_n (by omega)]⟩
      exact zR_st (x := 2) h15 hp h0 (by decide)
    · rw [if_pos ((zor4 _).1.mpr (by omega)), m_waits hp, Option.bind_some, zup_s, if_neg hc, if_neg hc]
      refine ⟨_, rfl, ?_, fun i hi => by rw [zupd_n (by omega), zupd_n (by omega), zupd_n (by omega)]⟩
      have e3 : upd (M 0) (840 + y) (-1) 3 = V 16 1 := by rw [zupd_n (by omega)]; exact hR.1.2.2.2.1
      rw [e3]
      exact zR_wait (x := V 16 1) h15 hp h0
end OP
