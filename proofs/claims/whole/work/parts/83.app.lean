/-! APPENDING, on both sides -/
section AP
variable {M V : az_St} {a b : Nat → Int32} {n z e t : Nat} {u : Nat → Nat} {k s : Nat}
theorem c_app (hI : zI n z e t u V) {h : Nat} (h2 : h < 2) (hh : zhd V n h s) : FX3_appendAt V (nI h) = some (nI (16 * s + u s), upd (V 0) s (if u s + 1 < z then 1 else 2), upd (V 2) s (nI (u s + 1)), upd (V 3) h (if u s + 1 < z then nI s else -1)) := by
  obtain ⟨hs10, huz⟩ := zhd_lt hI hh
  have hn := hI.D.n10
  have hz := hI.D.z12
  unfold FX3_appendAt az_lt
  rw [if_pos (zin h2 (by omega)), zc (by omega)]
  have hu := (hI.S s hs10).1
  rcases hh.2 with ⟨h3, -⟩ | ⟨h3, h4, -⟩
  · rw [h3, if_neg (znm (by omega)), if_neg (znm (by omega)), if_pos (zin (by omega) (by omega)), zc (by omega)]
    dsimp only
    rw [zupd_s, hu, zs, hI.D.e1, z16r, zadd]
    by_cases hc : u s + 1 < z
    · rw [if_pos ((zlt (by omega) (by omega)).mpr hc), if_pos hc, if_pos hc]
    · rw [if_neg (by rw [zlt (by omega) (by omega)]; exact hc), if_neg hc, if_neg hc]
  · rw [if_pos h3, c_freshest hn hI.D.e0, Option.bind_some, h4, if_neg (znm (by omega)), if_pos (zin (by omega) (by omega)), zc (by omega)]
    dsimp only
    rw [zupd_s, hu, zs, hI.D.e1, z16r, zadd]
    by_cases hc : u s + 1 < z
    · rw [if_pos ((zlt (by omega) (by omega)).mpr hc), if_pos hc, if_pos hc]
    · rw [if_neg (by rw [zlt (by omega) (by omega)]; exact hc), if_neg hc, if_neg hc]
def zch (b : Nat → Int32) (s us p : Nat) (st : Int32) (y : Nat) (v : Int32) (x : Nat) : Nat → Int32 := upd (upd (upd (upd (upd b (10 + 3 * s + 1) (nI (us + 1))) (40 + 5 * p) st) (40 + 5 * p + 1) (nI y)) (40 + 5 * p + 2) v) (40 + 5 * p + 3) (nI x)
def zcf (b : Nat → Int32) (z h s us p : Nat) (st : Int32) (y : Nat) (v : Int32) (x : Nat) : Nat → Int32 := if us + 1 = z then upd (upd (zch b s us p st y v x) (10 + 3 * s) 2) (8 + h) (-1) else zch b s us p st y v x
theorem m_app_raw (hR : zR V (M 0)) (hI : zI n z e t u V) {h y x : Nat} {st v : Int32} (h2 : h < 2) (hh : zhd V n h s) :
    ∃ b : Nat → Int32, b (8 + h) = nI s ∧ b (10 + 3 * s) = 1 ∧ (∀ i, i ≠ 8 + h → i ≠ 10 + 3 * s → b i = M 0 i) ∧ FX7_appends M (nI h) (nI y) v (nI x) st = some (nI (16 * s + u s), zcf b z h s (u s) (16 * s + u s) st y v x) := by
  obtain ⟨hs10, huz⟩ := zhd_lt hI hh
  have hn := hI.D.n10
  have hz := hI.D.z12
  have hp : 16 * s + u s < 160 := by omega
  have e8 : M 0 (8 + h) = V 3 h := by
    rcases (show h = 0 ∨ h = 1 by omega) with rfl | rfl
    · exact hR.1.2.2.2.2.2.2.2.2.1
    · exact hR.1.2.2.2.2.2.2.2.2.2
  have hu : M 0 (10 + 3 * s + 1) = nI (u s) := by rw [(hR.S s hs10).2.1]; exact (hI.S s hs10).1
  have hz1 : M 0 1 = nI z := hR.a1 hI.D
  unfold FX7_appends az_lt
  rw [zp8, if_pos (zin (by omega) (by omega)), zc (by omega), e8]
  rcases hh.2 with ⟨h3, h0⟩ | ⟨h3, h4, h0⟩
  · refine ⟨M 0, by rw [e8, h3], by rw [(hR.S s hs10).1, h0], fun i _ _ => rfl, ?_⟩
    rw [h3, if_neg (znm (by omega))]
    simp only [m_getSeg1 hs10, Option.bind_some, hu, z16l, zadd, zs, m_setSeg1 hs10, m_setBlk0 hp, m_setBlk1 hp, m_setBlk2 hp, m_setBlk3 hp, m_setSeg0 hs10, zup_s]
    unfold zcf
    have e1 : zch (M 0) s (u s) (16 * s + u s) st y v x (10 + 3 * s + 1) = nI (u s + 1) := by
      unfold zch
      simp only [zupd]
      repeat (first | rw [if_pos trivial] | rw [if_pos (by omega)] | rw [if_neg (by omega)])
    have e2 : zch (M 0) s (u s) (16 * s + u s) st y v x 1 = nI z := by
      unfold zch
      simp only [zupd]
      repeat (first | rw [if_pos trivial] | rw [if_pos (by omega)] | rw [if_neg (by omega)])
      exact hz1
    by_cases hc : u s + 1 = z
    · refine (if_pos (show zch (M 0) s (u s) (16 * s + u s) st y v x (10 + 3 * s + 1) = zch (M 0) s (u s) (16 * s + u s) st y v x 1 by rw [e1, e2, hc])).trans ?_
      rw [if_pos hc]
      rfl
    · refine (if_neg (show ¬ zch (M 0) s (u s) (16 * s + u s) st y v x (10 + 3 * s + 1) = zch (M 0) s (u s) (16 * s + u s) st y v x 1 by rw [e1, e2, zeq (by omega) (by omega)]; exact hc)).trans ?_
      rw [if_neg hc]
      rfl
  · obtain ⟨b, eb⟩ : ∃ b, b = upd (upd (M 0) (8 + h) (nI s)) (10 + 3 * s) 1 := ⟨_, rfl⟩
    have b8 : b (8 + h) = nI s := by rw [eb, zupd_n (by omega), zupd_s]
    have bs : b (10 + 3 * s) = 1 := by rw [eb, zupd_s]
    have bo : ∀ i, i ≠ 8 + h → i ≠ 10 + 3 * s → b i = M 0 i := fun i h1 h2 => by rw [eb, zupd_n h2, zupd_n h1]
    have hub : b (10 + 3 * s + 1) = nI (u s) := by rw [bo _ (by omega) (by omega)]; exact hu
    have hzb : b 1 = nI z := by rw [bo _ (by omega) (by omega)]; exact hz1
    refine ⟨b, b8, bs, bo, ?_⟩
    rw [if_pos h3, m_freshest hn (hR.a0 hI.D) hR.S, Option.bind_some, h4]
    simp only [zupd_s, m_setSeg0 hs10, Option.bind_some, zup_s, ← eb, b8, m_getSeg1 hs10, hub, z16l, zadd, zs, m_setSeg1 hs10, m_setBlk0 hp, m_setBlk1 hp, m_setBlk2 hp, m_setBlk3 hp]
    unfold zcf
    have e1 : zch b s (u s) (16 * s + u s) st y v x (10 + 3 * s + 1) = nI (u s + 1) := by
      unfold zch
      simp only [zupd]
      repeat (first | rw [if_pos trivial] | rw [if_pos (by omega)] | rw [if_neg (by omega)])
    have e2 : zch b s (u s) (16 * s + u s) st y v x 1 = nI z := by
      unfold zch
      simp only [zupd]
      repeat (first | rw [if_pos trivial] | rw [if_pos (by omega)] | rw [if_neg (by omega)])
      exact hzb
    by_cases hc : u s + 1 = z
    · refine (if_pos (show zch b s (u s) (16 * s + u s) st y v x (10 + 3 * s + 1) = zch b s (u s) (16 * s + u s) st y v x 1 by rw [e1, e2, hc])).trans ?_
      rw [if_pos hc]
      rfl
    · refine (if_neg (show ¬ zch b s (u s) (16 * s + u s) st y v x (10 + 3 * s + 1) = zch b s (u s) (16 * s + u s) st y v x 1 by rw [e1, e2, zeq (by omega) (by omega)]; exact hc)).trans ?_
      rw [if_neg hc]
      rfl
/-- what zcf holds -/
theorem zcf_at {h y x p us : Nat} {st v : Int32} (h2 : h < 2) (hs : s < 10) (b8 : b (8 + h) = nI s) (bs : b (10 + 3 * s) = 1) (bo : ∀ i, i ≠ 8 + h → i ≠ 10 + 3 * s → b i = a i) (hz : us < z) :
    zcf b z h s us p st y v x (8 + h) = (if us + 1 < z then nI s else -1) ∧ zcf b z h s us p st y v x (10 + 3 * s) = (if us + 1 < z then 1 else 2) ∧ zcf b z h s us p st y v x (10 + 3 * s + 1) = nI (us + 1) ∧ zcf b z h s us p st y v x (40 + 5 * p) = st ∧ zcf b z h s us p st y v x (40 + 5 * p + 1) = nI y ∧ zcf b z h s us p st y v x (40 + 5 * p + 2) = v ∧ zcf b z h s us p st y v x (40 + 5 * p + 3) = nI x ∧
    ∀ i, i ≠ 8 + h → i ≠ 10 + 3 * s → i ≠ 10 + 3 * s + 1 → i ≠ 40 + 5 * p → i ≠ 40 + 5 * p + 1 → i ≠ 40 + 5 * p + 2 → i ≠ 40 + 5 * p + 3 → zcf b z h s us p st y v x i = a i := by
  unfold zcf zch
  by_cases hc : us + 1 = z
  · rw [if_pos hc, if_neg (by omega), if_neg (by omega)]
    simp only [zupd]
    refine ⟨?_, ?_, ?_, ?_, ?_, ?_, ?_, fun i g1 g2 g3 g4 g5 g6 g7 => ?_⟩
    · repeat (first | rw [if_pos trivial] | rw [if_pos (by omega)] | rw [if_neg (by omega)])
    · repeat (first | rw [if_pos trivial] | rw [if_pos (by omega)] | rw [if_neg (by omega)])
    · repeat (first | rw [if_pos trivial] | rw [if_pos (by omega)] | rw [if_neg (by omega)])
    · repeat (first | rw [if_pos trivial] | rw [if_pos (by omega)] | rw [if_neg (by omega)])
    · repeat (first | rw [if_pos trivial] | rw [if_pos (by omega)] | rw [if_neg (by omega)])
    · repeat (first | rw [if_pos trivial] | rw [if_pos (by omega)] | rw [if_neg (by omega)])
    · repeat (first | rw [if_pos trivial] | rw [if_pos (by omega)] | rw [if_neg (by omega)])
    · rw [if_neg g1, if_neg g2, if_neg g7, if_neg g6, if_neg g5, if_neg g4, if_neg g3]
      exact bo i g1 g2
  · rw [if_neg hc, if_pos (show us + 1 < z by omega), if_pos (show us + 1 < z by omega)]
    simp only [zupd]
    refine ⟨?_, ?_, ?_, ?_, ?_, ?_, ?_, fun i g1 g2 g3 g4 g5 g6 g7 => ?_⟩
    · repeat (first | rw [if_pos trivial] | rw [if_pos (by omega)] | rw [if_neg (by omega)])
      exact b8
    · repeat (first | rw [if_pos trivial] | rw [if_pos (by omega)] | rw [if_neg (by omega)])
      exact bs
    · repeat (first | rw [if_pos trivial] | rw [if_pos (by omega)] | rw [if_neg (by omega)])
    · repeat (first | rw [if_pos trivial] | rw [if_pos (by omega)] | rw [if_neg (by omega)])
    · repeat (first | rw [if_pos trivial] | rw [if_pos (by omega)] | rw [if_neg (by omega)])
    · repeat (first | rw [if_pos trivial] | rw [if_pos (by omega)] | rw [if_neg (by omega)])
    · repeat (first | rw [if_pos trivial] | rw [if_pos (by omega)] | rw [if_neg (by omega)])
    · rw [if_neg g7, if_neg g6, if_neg g5, if_neg g4, if_neg g3]
      exact bo i g1 g2
theorem m_app (hR : zR V (M 0)) (hI : zI n z e t u V) {h y x : Nat} {st v : Int32} (h2 : h < 2) (hh : zhd V n h s) (hst : st = 1 ∨ st = 2) :
    ∃ a' : Nat → Int32, FX7_appends M (nI h) (nI y) v (nI x) st = some (nI (16 * s + u s), a') ∧ zR (zfil V z u h s st y v x) a' ∧ ∀ i, 964 ≤ i → a' i = M 0 i := by
  obtain ⟨hs10, huz⟩ := zhd_lt hI hh
  have hz12 := hI.D.z12
  obtain ⟨b, b8, bs, bo, happ⟩ := m_app_raw (y := y) (x := x) (st := st) (v := v) hR hI h2 hh
  obtain ⟨f1, f2, f3, f4, f5, f6, f7, f8⟩ := zcf_at (a := M 0) (y := y) (x := x) (st := st) (v := v) (p := 16 * s + u s) h2 hs10 b8 bs bo huz
  obtain ⟨c, ec⟩ : ∃ c, c = zcf b z h s (u s) (16 * s + u s) st y v x := ⟨_, rfl⟩
  rw [← ec] at f1 f2 f3 f4 f5 f6 f7 f8 happ
  refine ⟨c, happ, ⟨?_, ?_, ?_, zL_c hR.L (fun i _ hi => f8 i (by omega) (by omega) (by omega) (by omega) (by omega) (by omega) (by omega)), zT_c hR.T (fun i _ hi => f8 i (by omega) (by omega) (by omega) (by omega) (by omega) (by omega) (by omega)), zW_c hR.W (fun i _ hi => f8 i (by omega) (by omega) (by omega) (by omega) (by omega) (by omega) (by omega))⟩, fun i hi => f8 i (by omega) (by omega) (by omega) (by omega) (by omega) (by omega) (by omega)⟩
  · have g : ∀ i, i < 10 → i ≠ 8 + h → c i = M 0 i := fun i hi hne => f8 i hne (by omega) (by omega) (by omega) (by omega) (by omega) (by omega)
    obtain ⟨k0, k1, k2, k3, k4, k5, k6, k7, k8, k9⟩ := hR.N
    show zN (upd (V 3) h (if u s + 1 < z then nI s else -1)) (V 4) (V 16) c
    refine ⟨(g 0 (by omega) (by omega)).trans k0, (g 1 (by omega) (by omega)).trans k1, (g 2 (by omega) (by omega)).trans k2, (g 3 (by omega) (by omega)).trans k3, (g 4 (by omega) (by omega)).trans k4, (g 5 (by omega) (by omega)).trans k5, (g 6 (by omega) (by omega)).trans k6, (g 7 (by omega) (by omega)).trans k7, ?_, ?_⟩
    · rcases (show h = 0 ∨ h = 1 by omega) with rfl | rfl
      · rw [zupd_s]; exact f1
      · rw [zupd_n (by decide)]; exact (g 8 (by omega) (by omega)).trans k8
    · rcases (show h = 0 ∨ h = 1 by omega) with rfl | rfl
      · rw [zupd_n (by decide)]; exact (g 9 (by omega) (by omega)).trans k9
      · rw [zupd_s]; exact f1
  · show zS (upd (V 0) s (if u s + 1 < z then 1 else 2)) (V 1) (upd (V 2) s (nI (u s + 1))) c
    intro q hq
    by_cases cq : q = s
    · subst cq
      rw [zupd_s, zupd_s]
      exact ⟨f2, f3, (f8 _ (by omega) (by omega) (by omega) (by omega) (by omega) (by omega) (by omega)).trans (hR.S q hq).2.2⟩
    · rw [zupd_n cq, zupd_n cq, f8 _ (by omega) (by omega) (by omega) (by omega) (by omega) (by omega) (by omega), f8 _ (by omega) (by omega) (by omega) (by omega) (by omega) (by omega) (by omega), f8 _ (by omega) (by omega) (by omega) (by omega) (by omega) (by omega) (by omega)]
      exact hR.S q hq
  · show zB (upd (V 5) (16 * s + u s) st) (upd (V 6) (16 * s + u s) (nI y)) (upd (V 7) (16 * s + u s) v) (upd (V 8) (16 * s + u s) (nI x)) (V 9) c
    intro q hq
    by_cases cq : q = 16 * s + u s
    · subst cq
      rw [zupd_s, zupd_s, zupd_s, zupd_s]
      exact ⟨f4, fun _ => ⟨f5, f6, f7⟩, fun c => by rcases hst with h | h <;> rw [h] at c <;> exact absurd c (by decide)⟩
    · rw [zupd_n cq, zupd_n cq, zupd_n cq, zupd_n cq]
      have g : ∀ j, j < 5 → c (40 + 5 * q + j) = M 0 (40 + 5 * q + j) := fun j hj => f8 _ (by omega) (by omega) (by omega) (by omega) (by omega) (by omega) (by omega)
      obtain ⟨m1, m2, m3⟩ := hR.B q hq
      exact ⟨(g 0 (by omega)).trans m1, fun h0 => ⟨(g 1 (by omega)).trans (m2 h0).1, (g 2 (by omega)).trans (m2 h0).2.1, (g 3 (by omega)).trans (m2 h0).2.2⟩, fun h3 => (g 4 (by omega)).trans (m3 h3)⟩
end AP
