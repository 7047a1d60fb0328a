/-! ROLLING BACK, on both sides -/
section RB
variable {M V X : az_St} {a w : Nat → Int32} {n z e t N : Nat} {u : Nat → Nat} {s : Nat}
theorem zI_st1 (hI : zI n z e t u X) {p : Nat} (hp : p < 160) (h5 : X 5 p = 1 ∨ X 5 p = 2) : zI n z e t u (va_up X 5 (upd (X 5) p 1)) := by
  obtain ⟨hD, hS, hH, hB, hL, hW, hT⟩ := hI
  have h0 : ¬ X 5 p = 0 ∧ ¬ X 5 p = 3 := by rcases h5 with h | h <;> rw [h] <;> decide
  have keep : ∀ q, X 5 q = 1 ∨ X 5 q = 2 → upd (X 5) p 1 q = 1 ∨ upd (X 5) p 1 q = 2 := by
    intro q hq
    rw [zupd]
    split
    · exact Or.inl rfl
    · exact hq
  refine ⟨hD, hS, hH, ?_, ?_, ?_, hT⟩
  · show iB e t u (upd (X 5) p 1) (X 6) (X 7) (X 8) (X 9)
    intro q hq
    by_cases c : q = p
    · subst c
      rw [zupd_s]
      refine ⟨fun g => ?_, fun g => absurd ((hB q hq).2 g).1 h0.1⟩
      obtain ⟨-, g2, g3, -, g5⟩ := (hB q hq).1 g
      exact ⟨Or.inl rfl, g2, g3, fun c => absurd c (by decide), fun _ => g5 h0.2⟩
    · rw [zupd_n c]; exact hB q hq
  · show iL (upd (X 5) p 1) (X 6) (X 15)
    intro y hy
    rcases hL y hy with h | ⟨q, g1, g2, g3, g4⟩
    · exact Or.inl h
    · refine Or.inr ⟨q, g1, g2, ?_, g4⟩
      rw [zupd]
      split
      · rfl
      · exact g3
  · show iW (upd (X 5) p 1) (X 6) (X 13) (X 14)
    intro i hi
    refine ⟨(hW i hi).1, fun y hy => ?_⟩
    rcases (hW i hi).2 y hy with h | ⟨g0, q, g1, g2, g3, g4⟩
    · exact Or.inl h
    · exact Or.inr ⟨g0, q, g1, g2, keep q g3, g4⟩
theorem zI_liveN (hI : zI n z e t u X) {y : Nat} : zI n z e t u (va_up X 15 (upd (X 15) y (-1))) := by
  obtain ⟨hD, hS, hH, hB, hL, hW, hT⟩ := hI
  refine ⟨hD, hS, hH, hB, ?_, hW, hT⟩
  show iL (X 5) (X 6) (upd (X 15) y (-1))
  intro q hq
  rw [zupd]
  split
  · exact Or.inl rfl
  · exact hL q hq
theorem drop_blk (hI : zI n z e t u X) {y : Nat} (hy : y < 24) : ∀ k, k < 160 → (d5 X y k = X 5 k ∧ d9 X y k = X 9 k) ∨ d5 X y k = 1 ∨ d5 X y k = 2 ∨ (d5 X y k = 3 ∧ d9 X y k = nI e) ∨ X 5 k = 0 := by
  intro k hk
  unfold d5 d9
  rcases hI.L y hy with h | ⟨p, hp, h, h1, h2⟩
  · rw [if_pos h, if_pos h]; exact Or.inl ⟨rfl, rfl⟩
  · rw [h, if_neg (znm (by omega)), if_neg (znm (by omega)), zc (by omega)]
    by_cases c : k = p
    · subst c
      by_cases g : 0 < zcnt 4 (zhs (X 14) y k)
      · rw [if_pos g, if_pos g, zupd_s]; exact Or.inr (Or.inr (Or.inl rfl))
      · rw [if_neg g, if_neg g, zupd_s, zupd_s]; exact Or.inr (Or.inr (Or.inr (Or.inl ⟨rfl, hI.T.1⟩)))
    · by_cases g : 0 < zcnt 4 (zhs (X 14) y p)
      · rw [if_pos g, if_pos g, zupd_n c]; exact Or.inl ⟨rfl, rfl⟩
      · rw [if_neg g, if_neg g, zupd_n c, zupd_n c]; exact Or.inl ⟨rfl, rfl⟩
def zV3 (V : az_St) (x : (Nat → Int32) × (Nat → Int32) × (Nat → Int32)) : az_St := va_up (va_up (va_up V 5 x.1) 9 x.2.1) 15 x.2.2
def zrl (V M : az_St) (n z e t : Nat) (u : Nat → Nat) (x : ((Nat → Int32) × (Nat → Int32) × (Nat → Int32)) × Int32) (w : (Nat → Int32) × Int32) : Prop :=
  zR (zV3 V x.1) w.1 ∧ zI n z e t u (zV3 V x.1) ∧ (∀ i, 964 ≤ i → w.1 i = M 0 i) ∧ iR e x.1.1 x.1.2.1 (V 10) (V 11) (V 12) ∧ x.2 = w.2
theorem roll_both (hR : zR V (M 0)) (hI : zI n z e t u V) (hQ : iR e (V 5) (V 9) (V 10) (V 11) (V 12)) (hs : s < 4) (k q : Nat → Int32) : ∃ (x : (Nat → Int32) × (Nat → Int32) × (Nat → Int32)) (r : Int32) (a' : Nat → Int32), FX5_returnTo V (nI s) = some (r, x.1, x.2.1, x.2.2) ∧ FX7_rollBack_L18 az_fuel M (nI s) (M 0) k q 0 0 = some (r, a', k, q) ∧ zR (zV3 V x) a' ∧ zI n z e t u (zV3 V x) ∧ (∀ i, 964 ≤ i → a' i = M 0 i) ∧ iR e x.1 x.2.1 (V 10) (V 11) (V 12) := by
  have start := for2 (fun m (x : ((Nat → Int32) × (Nat → Int32) × (Nat → Int32)) × Int32) y => FX5_returnTo_L4 m V (nI s) x.1.1 x.1.2.1 x.1.2.2 x.2 y) (fun m (w : (Nat → Int32) × Int32) y => FX7_rollBack_L18 m M (nI s) w.1 k q w.2 y) (fun _ x w => zrl V M n z e t u x w) 0 24 (fun j hj x w hrel => ?_) ((V 5, V 9, V 15), 0) (M 0, 0) ⟨zR_e hR (zc17 rfl rfl rfl rfl rfl rfl rfl rfl rfl rfl rfl rfl rfl rfl rfl rfl rfl), zI_e hI (zc17 rfl rfl rfl rfl rfl rfl rfl rfl rfl rfl rfl rfl rfl rfl rfl rfl rfl), fun _ _ => rfl, hQ, rfl⟩
  · obtain ⟨x, w, ⟨r1, r2, r3, r4, r5⟩, f, g⟩ := start
    refine ⟨x.1, x.2, w.1, ?_, ?_, r1, r2, r3, r4⟩
    · have hf := f (9975 + 1)
      rw [show FX5_returnTo_L4 (9975 + 1) V (nI s) x.1.1 x.1.2.1 x.1.2.2 x.2 (nI (0 + 24)) = some (x.2, x.1.1, x.1.2.1, x.1.2.2) from by
        rw [FX5_returnTo_L4_s, if_pos (by decide)]] at hf
      exact hf
    · have hg := g (9975 + 1)
      rw [show FX7_rollBack_L18 (9975 + 1) M (nI s) w.1 k q w.2 (nI (0 + 24)) = some (w.2, w.1, k, q) from by
        rw [FX7_rollBack_L18_s, if_pos (by decide)]] at hg
      rw [r5]
      exact hg
  · obtain ⟨x, c⟩ := x
    obtain ⟨w, d⟩ := w
    obtain ⟨r1, r2, r3, r4, r5⟩ := hrel
    dsimp only at r1 r2 r3 r4 r5
    rw [Nat.zero_add]
    have mid : ¬ (24 : Int32) ≤ nI j := by
      rw [show (24 : Int32) = nI 24 from rfl, zle (by omega) (by omega)]; omega
    have cb : FX4_blockOf (zV3 V x) (nI s) (nI j) = some (V 14 (24 * s + j)) := c_blockOf hs hj
    have wrow : FX7_inSnapshot (va_up (va_up (va_up M 0 w) 1 k) 2 q) (nI s) (nI j) = some (V 14 (24 * s + j)) := (m_snap (va_up (va_up (va_up M 0 w) 1 k) 2 q) hs hj).trans (congrArg some (r1.W (24 * s + j) (by omega)))
    have wl : w (840 + j) = x.2.2 j := r1.L j hj
    by_cases he : V 14 (24 * s + j) = x.2.2 j
    · refine ⟨(x, c), (w, d), ⟨r1, r2, r3, r4, r5⟩, fun m => ?_, fun m => ?_⟩
      · dsimp only
        rw [FX5_returnTo_L4_s, if_neg mid]
        refine (congrArg (fun q => Option.bind q _) cb).trans ?_
        rw [Option.bind_some, if_pos (zin hj (by omega)), zc (by omega), if_pos he, zs j]
      · dsimp only
        rw [FX7_rollBack_L18_s, if_neg mid, wrow, Option.bind_some, zp840, if_pos (zin (by omega) (by omega)), zc (by omega), wl, if_pos he, zs j]
    · obtain ⟨a1, e1, q1, b1⟩ := m_ends (M := va_up (va_up (va_up M 0 w) 1 k) 2 q) (V := zV3 V x) r1 r2.L r2.W hj
      have cd : FX5_dropLive (zV3 V x) (nI j) = some (x.2.2 j, d5 (zV3 V x) j, d9 (zV3 V x) j, upd x.2.2 j (-1)) := c_dropLive r2.L hj
      have i1 := zI_drop r2 hj
      have rq1 : iR e (d5 (zV3 V x) j) (d9 (zV3 V x) j) (V 10) (V 11) (V 12) := iR_blk r4 (drop_blk r2 hj)
      rcases (i1.W s hs).2 j hj with h | ⟨-, p, hp, h, h5, h6⟩
      · have h : V 14 (24 * s + j) = -1 := h
        refine ⟨((d5 (zV3 V x) j, d9 (zV3 V x) j, upd (upd x.2.2 j (-1)) j (-1)), c + 1), (upd a1 (840 + j) (-1), d + 1), ⟨?_, ?_, ?_, rq1, by dsimp only; rw [r5]⟩, fun m => ?_, fun m => ?_⟩
        · exact zR_e (zR_live q1 hj (-1)) (zc17 rfl rfl rfl rfl rfl rfl rfl rfl rfl rfl rfl rfl rfl rfl rfl rfl rfl)
        · exact zI_e (zI_liveN i1 (y := j)) (zc17 rfl rfl rfl rfl rfl rfl rfl rfl rfl rfl rfl rfl rfl rfl rfl rfl rfl)
        · intro i hi
          dsimp only
          rw [zupd_n (by omega), b1 i hi]; exact r3 i hi
        · dsimp only
          rw [FX5_returnTo_L4_s, if_neg mid]
          refine (congrArg (fun q => Option.bind q _) cb).trans ?_
          rw [Option.bind_some, if_pos (zin hj (by omega)), zc (by omega), if_neg he]
          refine (congrArg (fun q => Option.bind q _) cd).trans ?_
          rw [Option.bind_some, if_pos h, zs j, h]
        · dsimp only
          rw [FX7_rollBack_L18_s, if_neg mid, wrow, Option.bind_some, zp840, if_pos (zin (by omega) (by omega)), zc (by omega), wl, if_neg he, e1, Option.bind_some, zs j]
          unfold az_lt
          dsimp only
          rw [if_pos h, h]
      · have h : V 14 (24 * s + j) = nI p := h
        have hp0 : ¬ (zdrop (zV3 V x) j) 5 p = 0 := by rcases h5 with g | g <;> rw [g] <;> decide
        refine ⟨((upd (d5 (zV3 V x) j) p 1, d9 (zV3 V x) j, upd (upd x.2.2 j (-1)) j (nI p)), c + 1), (upd (upd a1 (840 + j) (nI p)) (40 + 5 * p) 1, d + 1), ⟨?_, ?_, ?_, ?_, by dsimp only; rw [r5]⟩, fun m => ?_, fun m => ?_⟩
        · exact zR_e (zR_st (x := 1) (zR_live q1 hj (nI p)) hp hp0 (by decide)) (zc17 rfl rfl rfl rfl rfl rfl rfl rfl rfl rfl rfl rfl rfl rfl rfl rfl rfl)
        · exact zI_e (zI_live (zI_st1 i1 hp h5) hj hp zupd_s h6) (zc17 rfl rfl rfl rfl rfl rfl rfl rfl rfl rfl rfl rfl rfl rfl rfl rfl rfl)
        · intro i hi
          dsimp only
          rw [zupd_n (by omega), zupd_n (by omega), b1 i hi]; exact r3 i hi
        · refine iR_blk rq1 (fun k2 hk2 => ?_)
          dsimp only
          rw [zupd]
          by_cases c2 : k2 = p
          · rw [if_pos c2]; exact Or.inr (Or.inl rfl)
          · rw [if_neg c2]; exact Or.inl ⟨rfl, rfl⟩
        · dsimp only
          rw [FX5_returnTo_L4_s, if_neg mid]
          refine (congrArg (fun q => Option.bind q _) cb).trans ?_
          rw [Option.bind_some, if_pos (zin hj (by omega)), zc (by omega), if_neg he]
          refine (congrArg (fun q => Option.bind q _) cd).trans ?_
          rw [Option.bind_some, h, if_neg (znm (by omega)), if_pos (zin hp (by omega)), zc (by omega), zs j]
        · dsimp only
          rw [FX7_rollBack_L18_s, if_neg mid, wrow, Option.bind_some, zp840, if_pos (zin (by omega) (by omega)), zc (by omega), wl, if_neg he, e1, Option.bind_some, zs j]
          unfold az_lt
          dsimp only
          rw [h, if_neg (znm (by omega)), m_setBlk0 hp, Option.bind_some, zup_n (by decide), zup_n (by decide), zup_s]
/-! beginning -/
theorem zput_cat (f : Nat → Int32) (j : Nat) (c : Int32) : zput (zput f 0 (24 * j) c) (24 * j) 24 c = zput f 0 (24 * (j + 1)) c := by
  funext i
  unfold zput
  by_cases h : 24 * j ≤ i ∧ i < 24 * j + 24
  · rw [if_pos h, if_pos (by omega)]
  · rw [if_neg h]
    by_cases g : 0 ≤ i ∧ i < 0 + 24 * j
    · rw [if_pos g, if_pos (by omega)]
    · rw [if_neg g, if_neg (by omega)]
theorem c_snapBegin (V : az_St) : FX4_begin V = some (zput (V 13) 0 4 0, zput (V 14) 0 96 (-1)) := by
  unfold FX4_begin
  have key := for0 (fun m (c : (Nat → Int32) × (Nat → Int32)) y => FX4_begin_L2 m V c.1 c.2 y) (fun j => (zput (V 13) 0 j 0, zput (V 14) 0 (24 * j) (-1))) 4 (r := some (zput (V 13) 0 4 0, zput (V 14) 0 96 (-1))) (fun m j hj => ?_) (fun m => ?_) az_fuel (zfu (by omega))
  · try dsimp only at key
    rw [Nat.mul_zero, zput_0, zput_0] at key
    exact key
  · try dsimp only
    rw [FX4_begin_L2_s, if_neg (by rw [show (4 : Int32) = nI 4 from rfl, zle (by omega) (by omega)]; omega), c_forget hj, Option.bind_some, zs j]
    have e13 := zput_s (V 13) 0 j 0
    rw [Nat.zero_add] at e13
    show FX4_begin_L2 m V (upd (zput (V 13) 0 j 0) j 0) (zput (zput (V 14) 0 (24 * j) (-1)) (24 * j) 24 (-1)) (nI (j + 1)) = _
    rw [e13, zput_cat]
  · try dsimp only
    rw [FX4_begin_L2_s, if_pos (by decide)]
/-- a volume that begins -/
def zbe (V : az_St) (x1 x2 x3 : Int32) : (Nat → Int32) × (Nat → Int32) × (Nat → Int32) × (Nat → Int32) × (Nat → Int32) × (Nat → Int32) × (Nat → Int32) × (Nat → Int32) × (Nat → Int32) × (Nat → Int32) × (Nat → Int32) × (Nat → Int32) × (Nat → Int32) × (Nat → Int32) × (Nat → Int32) × (Nat → Int32) × (Nat → Int32) :=
  (zput (V 0) 0 10 0, zput (V 1) 0 10 0, zput (V 2) 0 10 0, zput (V 3) 0 2 (-1), upd (upd (V 4) 0 x1) 1 x2, zput (V 5) 0 160 0, zput (V 6) 0 160 (-1), zput (V 7) 0 160 (-1), zput (V 8) 0 160 (-1), zput (V 9) 0 160 (-1), zput (V 10) 0 160 0, zput (V 11) 0 6 0, zput (V 12) 0 6 (-1), zput (V 13) 0 4 0, zput (V 14) 0 96 (-1), zput (V 15) 0 24 (-1), upd (upd (upd (upd (upd (upd (V 16) 0 x3) 1 0) 2 0) 3 0) 4 0) 5 0)
theorem c_volBegin (V : az_St) (x1 x2 x3 : Int32) : FX5_begin V x1 x2 x3 = some (zbe V x1 x2 x3) := by
  unfold FX5_begin FX3_begin FX2_begin az_lt
  simp only [c_fillArr 10 (by omega), c_fillArr 2 (by omega), c_fillArr 6 (by omega), c_fillArr 24 (by omega), Option.bind_some, c_begin, c_snapBegin]
  rfl
def zbv (i : Nat) : Int32 := if i = 8 ∨ i = 9 ∨ (840 ≤ i ∧ i < 864) ∨ (868 ≤ i ∧ i < 964) then -1 else 0
def zbg (a : Nat → Int32) (j : Nat) : Nat → Int32 := fun i => if i < j then zbv i else a i
theorem zbg_s {a : Nat → Int32} {j : Nat} {c : Int32} (hc : c = zbv j) : upd (zbg a j) j c = zbg a (j + 1) := by
  funext i
  rw [zupd]
  unfold zbg
  by_cases h : i = j
  · rw [if_pos h, if_pos (by omega), hc, h]
  · rw [if_neg h]
    by_cases g : i < j
    · rw [if_pos g, if_pos (by omega)]
    · rw [if_neg g, if_neg (by omega)]
theorem zbv_m {j : Nat} (h : j = 8 ∨ j = 9 ∨ (840 ≤ j ∧ j < 864) ∨ (868 ≤ j ∧ j < 964)) : (-1 : Int32) = zbv j := by unfold zbv; rw [if_pos h]
theorem zbv_z {j : Nat} (h : ¬ (j = 8 ∨ j = 9 ∨ (840 ≤ j ∧ j < 864) ∨ (868 ≤ j ∧ j < 964))) : (0 : Int32) = zbv j := by unfold zbv; rw [if_neg h]
theorem m_begins_s (M : az_St) (x1 x2 x3 : Int32) (m j : Nat) (hj : j < 1036) : FX7_begins_L3 (m + 1) M x1 x2 x3 (zbg (M 0) j) (nI j) = FX7_begins_L3 m M x1 x2 x3 (zbg (M 0) (j + 1)) (nI (j + 1)) := by
  have e840 : (nI j < (840 : Int32)) ↔ j < 840 := by rw [show (840 : Int32) = nI 840 from rfl]; exact zlt (by omega) (by omega)
  have e868 : (nI j < (868 : Int32)) ↔ j < 868 := by rw [show (868 : Int32) = nI 868 from rfl]; exact zlt (by omega) (by omega)
  have e964 : (nI j < (964 : Int32)) ↔ j < 964 := by rw [show (964 : Int32) = nI 964 from rfl]; exact zlt (by omega) (by omega)
  have e864 : (nI j < (864 : Int32)) ↔ j < 864 := by rw [show (864 : Int32) = nI 864 from rfl]; exact zlt (by omega) (by omega)
  have e8 : (nI j = (8 : Int32)) ↔ j = 8 := by rw [show (8 : Int32) = nI 8 from rfl]; exact zeq (by omega) (by omega)
  have e9 : (nI j = (9 : Int32)) ↔ j = 9 := by rw [show (9 : Int32) = nI 9 from rfl]; exact zeq (by omega) (by omega)
  have lm : (j = 8 ∨ j = 9 ∨ (840 ≤ j ∧ j < 864) ∨ (868 ≤ j ∧ j < 964)) → (az_lt (upd (zbg (M 0) j) j (-1)) fun u68 => FX7_begins_L3 m M x1 x2 x3 u68 (nI (j + 1))) = FX7_begins_L3 m M x1 x2 x3 (zbg (M 0) (j + 1)) (nI (j + 1)) := by
    intro h
    rw [zbg_s (zbv_m h)]
    rfl
  have lz : ¬ (j = 8 ∨ j = 9 ∨ (840 ≤ j ∧ j < 864) ∨ (868 ≤ j ∧ j < 964)) → (az_lt (upd (zbg (M 0) j) j 0) fun u68 => FX7_begins_L3 m M x1 x2 x3 u68 (nI (j + 1))) = FX7_begins_L3 m M x1 x2 x3 (zbg (M 0) (j + 1)) (nI (j + 1)) := by
    intro h
    rw [zbg_s (zbv_z h)]
    rfl
  rw [FX7_begins_L3_s, if_neg (by rw [show (1036 : Int32) = nI 1036 from rfl, zle (by omega) (by omega)]; omega), zs j]
  simp only [e840, e868, e964, e864, e8, e9, zin (show j < 1036 by omega) (show 1036 < 2147483648 by omega), if_true, zc (show j < 2147483648 by omega)]
  by_cases h : j = 8 ∨ j = 9 ∨ (840 ≤ j ∧ j < 864) ∨ (868 ≤ j ∧ j < 964)
  · rw [lm h]
    by_cases c1 : j < 840
    · rw [if_pos c1, if_pos (by omega)]
      by_cases c8 : j = 8
      · rw [if_pos c8]
      · rw [if_neg c8, if_pos (by omega)]
    · rw [if_neg c1]
      by_cases c2 : j < 864
      · rw [if_pos c2]
      · rw [if_neg c2, if_neg (by omega), if_pos (by omega)]
  · rw [lz h]
    by_cases c1 : j < 840
    · rw [if_pos c1, if_pos (by omega), if_neg (by omega), if_neg (by omega)]
    · rw [if_neg c1, if_neg (by omega)]
      by_cases c2 : j < 868
      · rw [if_pos c2, if_neg (by omega), if_neg (by omega)]
      · rw [if_neg c2, if_neg (by omega), if_neg (by omega), if_neg (by omega)]
theorem m_begins (M : az_St) (x1 x2 x3 : Int32) : FX7_begins M x1 x2 x3 = some (upd (upd (upd (zbg (M 0) 1036) 0 x1) 1 x2) 2 x3) := by
  unfold FX7_begins
  have key := for0 (fun m (c : Nat → Int32) y => FX7_begins_L3 m M x1 x2 x3 c y) (fun j => zbg (M 0) j) 1036 (r := some (upd (upd (upd (zbg (M 0) 1036) 0 x1) 1 x2) 2 x3)) (fun m j hj => m_begins_s M x1 x2 x3 m j hj) (fun m => ?_) az_fuel (zfu (by omega))
  · try dsimp only at key
    have e0 : zbg (M 0) 0 = M 0 := by funext i; exact if_neg (by omega)
    rw [e0] at key
    exact key
  · try dsimp only
    rw [FX7_begins_L3_s, if_pos (by decide)]
    rfl
/-- the same with a volume's name -/
def zbV (V : az_St) (o : (Nat → Int32) × (Nat → Int32) × (Nat → Int32) × (Nat → Int32) × (Nat → Int32) × (Nat → Int32) × (Nat → Int32) × (Nat → Int32) × (Nat → Int32) × (Nat → Int32) × (Nat → Int32) × (Nat → Int32) × (Nat → Int32) × (Nat → Int32) × (Nat → Int32) × (Nat → Int32) × (Nat → Int32)) : az_St := az_cpo V o
theorem zGood_beg (V : az_St) (a : Nat → Int32) {n z : Nat} (x3 : Int32) (h3 : 3 ≤ n) (h10 : n ≤ 10) (h2 : 2 ≤ z) (h12 : z ≤ 12) (N : Nat) : zGood N (az_cpo V (zbe V (nI n) (nI z) x3)) (upd (upd (upd (zbg a 1036) 0 (nI n)) 1 (nI z)) 2 x3) := by
  have av : ∀ i, 3 ≤ i → i < 1036 → upd (upd (upd (zbg a 1036) 0 (nI n)) 1 (nI z)) 2 x3 i = zbv i := by
    intro i h1 h2
    rw [zupd_n (by omega), zupd_n (by omega), zupd_n (by omega)]
    exact if_pos h2
  have pv : ∀ (f : Nat → Int32) (m : Nat) (c : Int32) (i : Nat), i < m → zput f 0 m c i = c := fun f m c i h => if_pos (by omega)
  have vz : ∀ i, ¬ (i = 8 ∨ i = 9 ∨ (840 ≤ i ∧ i < 864) ∨ (868 ≤ i ∧ i < 964)) → zbv i = 0 := fun i h => (zbv_z h).symm
  have vm : ∀ i, (i = 8 ∨ i = 9 ∨ (840 ≤ i ∧ i < 864) ∨ (868 ≤ i ∧ i < 964)) → zbv i = -1 := fun i h => (zbv_m h).symm
  refine ⟨n, z, 0, 0, fun _ => 0, ⟨?_, ?_, ?_, ?_, ?_, ?_⟩, ⟨?_, ?_, ?_, ?_, ?_, ?_, ?_⟩, ?_, ⟨?_, ?_, ?_⟩, by omega, ?_, ?_⟩
  · show zN (zput (V 3) 0 2 (-1)) (upd (upd (V 4) 0 (nI n)) 1 (nI z)) (upd (upd (upd (upd (upd (upd (V 16) 0 x3) 1 0) 2 0) 3 0) 4 0) 5 0) _
    refine ⟨?_, ?_, ?_, ?_, ?_, ?_, ?_, ?_, ?_, ?_⟩
    · rw [zupd_n (by decide), zupd_n (by decide), zupd_s, zupd_n (by decide), zupd_s]
    · rw [zupd_n (by decide), zupd_s, zupd_s]
    · simp [zupd]
    · rw [av 3 (by omega) (by omega), vz 3 (by omega)]; simp [zupd]
    · rw [av 4 (by omega) (by omega), vz 4 (by omega)]; simp [zupd]
    · rw [av 5 (by omega) (by omega), vz 5 (by omega)]; simp [zupd]
    · rw [av 6 (by omega) (by omega), vz 6 (by omega)]; simp [zupd]
    · rw [av 7 (by omega) (by omega), vz 7 (by omega)]; simp [zupd]
    · rw [av 8 (by omega) (by omega), vm 8 (by omega), pv _ _ _ _ (by omega)]
    · rw [av 9 (by omega) (by omega), vm 9 (by omega), pv _ _ _ _ (by omega)]
  · intro s hs
    show _ = zput (V 0) 0 10 0 s ∧ _ = zput (V 2) 0 10 0 s ∧ _ = zput (V 1) 0 10 0 s
    rw [av _ (by omega) (by omega), av _ (by omega) (by omega), av _ (by omega) (by omega), vz _ (by omega), vz _ (by omega), vz _ (by omega), pv _ _ _ _ hs, pv _ _ _ _ hs, pv _ _ _ _ hs]
    exact ⟨rfl, rfl, rfl⟩
  · intro k hk
    show _ = zput (V 5) 0 160 0 k ∧ (zput (V 5) 0 160 0 k ≠ 0 → _) ∧ (zput (V 5) 0 160 0 k = 3 → _)
    rw [pv _ _ _ _ hk, av _ (by omega) (by omega), vz _ (by omega)]
    exact ⟨rfl, fun c => absurd rfl c, fun c => absurd c (by decide)⟩
  · intro y hy
    show _ = zput (V 15) 0 24 (-1) y
    rw [pv _ _ _ _ hy, av _ (by omega) (by omega), vm _ (by omega)]
  · intro y hy
    show _ = zput (V 13) 0 4 0 y
    rw [pv _ _ _ _ hy, av _ (by omega) (by omega), vz _ (by omega)]
  · intro y hy
    show _ = zput (V 14) 0 96 (-1) y
    rw [pv _ _ _ _ hy, av _ (by omega) (by omega), vm _ (by omega)]
  · show iD n z (upd (upd (V 4) 0 (nI n)) 1 (nI z))
    exact ⟨h3, h10, h2, h12, by rw [zupd_n (by decide), zupd_s], zupd_s⟩
  · intro s hs
    show zput (V 2) 0 10 0 s = _ ∧ (zput (V 0) 0 10 0 s = 0 ∧ _ ∨ _)
    rw [pv _ _ _ _ hs, pv _ _ _ _ hs]
    exact ⟨rfl, Or.inl ⟨rfl, rfl⟩⟩
  · refine ⟨fun h hh => Or.inl (pv (V 3) 2 (-1) h hh), fun _ => pv (V 3) 2 (-1) 0 (by omega)⟩
  · intro k hk
    show _ ∧ (_ → zput (V 5) 0 160 0 k = 0 ∧ zput (V 6) 0 160 (-1) k = -1 ∧ zput (V 7) 0 160 (-1) k = -1 ∧ zput (V 8) 0 160 (-1) k = -1 ∧ zput (V 9) 0 160 (-1) k = -1)
    rw [pv _ _ _ _ hk, pv _ _ _ _ hk, pv _ _ _ _ hk, pv _ _ _ _ hk, pv _ _ _ _ hk]
    exact ⟨fun c => absurd c (by show ¬ k % 16 < 0; omega), fun _ => ⟨rfl, rfl, rfl, rfl, rfl⟩⟩
  · intro y hy
    exact Or.inl (pv _ _ _ _ hy)
  · intro i hi
    exact ⟨Or.inl (pv _ _ _ _ hi), fun y hy => Or.inl (pv _ _ _ _ (by omega))⟩
  · show iT 0 0 (upd (upd (upd (upd (upd (upd (V 16) 0 x3) 1 0) 2 0) 3 0) 4 0) 5 0)
    refine ⟨?_, ?_, by omega, by omega⟩
    · simp [zupd]; rfl
    · simp [zupd]; rfl
  · intro r hr
    show _ = zput (V 11) 0 6 0 r ∧ (zput (V 11) 0 6 0 r = 1 → _) ∧ _
    rw [pv _ _ _ _ hr, av _ (by omega) (by omega), vz _ (by omega)]
    refine ⟨rfl, fun c => absurd c (by decide), fun s hs => ⟨0, by omega, ?_, fun b hb => ?_⟩⟩
    · rw [av _ (by omega) (by omega), vz _ (by omega)]; rfl
    · show _ = zbit (zput (V 10) 0 160 0 (16 * s + b)) r
      rw [pv _ _ _ _ (by omega), zbit0 r hr, Nat.zero_testBit]
  · intro r hr
    exact Or.inr ⟨Or.inl (pv _ _ _ _ hr), pv _ _ _ _ hr⟩
  · intro k hk
    exact ⟨0, by omega, pv _ _ _ _ hk⟩
  · intro k hk r hr hz
    have hz : zbit (zput (V 10) 0 160 0 k) r = true := hz
    rw [pv _ _ _ _ hk, zbit0 r hr] at hz
    exact absurd hz (by decide)
  · refine ⟨0, by omega, ?_⟩
    show upd (upd (upd (upd (upd (upd (V 16) 0 x3) 1 0) 2 0) 3 0) 4 0) 5 0 4 = nI 0
    simp [zupd]; rfl
  · refine ⟨0, by omega, ?_⟩
    show upd (upd (upd (upd (upd (upd (V 16) 0 x3) 1 0) 2 0) 3 0) 4 0) 5 0 5 = nI 0
    simp [zupd]; rfl
end RB
