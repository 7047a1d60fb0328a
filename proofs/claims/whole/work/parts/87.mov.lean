/-! MOVING A BLOCK, on both sides -/
/-- rows with the block p in place of the block k of the key y -/
def zex (v14 : Nat → Int32) (y k p : Nat) (j : Nat) : Nat → Int32 := fun i => if i / 24 < j ∧ i % 24 = y ∧ v14 i = nI k then nI p else v14 i
section MV
variable {M V X : az_St} {a b : Nat → Int32} {n z e t : Nat} {u : Nat → Nat} {k s y p : Nat}
theorem zex_0 (v14 : Nat → Int32) (y k p : Nat) : zex v14 y k p 0 = v14 := by funext i; unfold zex; rw [if_neg (by omega)]
theorem zex_at {v14 : Nat → Int32} {j : Nat} (hy : y < 24) : zex v14 y k p j (24 * j + y) = v14 (24 * j + y) := by unfold zex; rw [if_neg (by omega)]
theorem zex_t {v14 : Nat → Int32} {j : Nat} (hy : y < 24) (h : v14 (24 * j + y) = nI k) : upd (zex v14 y k p j) (24 * j + y) (nI p) = zex v14 y k p (j + 1) := by
  funext i
  rw [zupd]
  unfold zex
  by_cases c : i = 24 * j + y
  · rw [if_pos c, if_pos ⟨by omega, by omega, by rw [c]; exact h⟩]
  · rw [if_neg c]
    by_cases d : i / 24 < j ∧ i % 24 = y ∧ v14 i = nI k
    · rw [if_pos d, if_pos ⟨by omega, d.2⟩]
    · rw [if_neg d, if_neg (fun g => d ⟨by have := g.1; have := g.2.1; omega, g.2⟩)]
theorem zex_f {v14 : Nat → Int32} {j : Nat} (hy : y < 24) (h : ¬ v14 (24 * j + y) = nI k) : zex v14 y k p j = zex v14 y k p (j + 1) := by
  funext i
  unfold zex
  by_cases c : i = 24 * j + y
  · rw [if_neg (by omega), if_neg (fun g => h (by rw [← c]; exact g.2.2))]
  · by_cases d : i / 24 < j ∧ i % 24 = y ∧ v14 i = nI k
    · rw [if_pos d, if_pos ⟨by omega, d.2⟩]
    · rw [if_neg d, if_neg (fun g => d ⟨by have := g.1; have := g.2.1; omega, g.2⟩)]
theorem c_exchange (V : az_St) (hy : y < 24) : FX4_exchange V (nI y) (nI k) (nI p) = some (zex (V 14) y k p 4) := by
  unfold FX4_exchange
  have key := for0 (fun m (w : Nat → Int32) q => FX4_exchange_L3 m V (nI y) (nI k) (nI p) w q) (fun j => zex (V 14) y k p j) 4 (r := some (zex (V 14) y k p 4)) (fun m j hj => ?_) (fun m => ?_) az_fuel (zfu (by omega))
  · try dsimp only at key
    rw [zex_0] at key
    exact key
  · try dsimp only
    rw [FX4_exchange_L3_s, if_neg (by rw [show (4 : Int32) = nI 4 from rfl, zle (by omega) (by omega)]; omega), c_has hj hy, Option.bind_some, zb1, zup_s, z24r, zadd, if_pos (zin (by omega) (by omega)), zc (by omega), zs j]
    by_cases h : V 14 (24 * j + y) = nI k
    · rw [if_pos (by simp only [zhs, decide_eq_true_eq]; rw [zex_at hy]; exact h), zex_t hy h]
    · rw [if_neg (by simp only [zhs, decide_eq_true_eq]; rw [zex_at hy]; exact h), zex_f hy h]
  · try dsimp only
    rw [FX4_exchange_L3_s, if_pos (by decide)]
/-- the volume with the block k moved to the head 1's segment s -/
def zmo2 (V : az_St) (z : Nat) (u : Nat → Nat) (s k y x : Nat) : az_St := if V 5 k = 1 then va_up (zfil V z u 1 s (V 5 k) y (V 7 k) x) 15 (upd (V 15) y (nI (16 * s + u s))) else zfil V z u 1 s (V 5 k) y (V 7 k) x
def zmo3 (V : az_St) (z : Nat) (u : Nat → Nat) (s k y x : Nat) : az_St := va_up (zmo2 V z u s k y x) 14 (zex (V 14) y k (16 * s + u s) 4)
def zmov (V : az_St) (z : Nat) (u : Nat → Nat) (s k y x : Nat) : az_St := va_up (va_up (zmo3 V z u s k y x) 5 (upd (upd (V 5) (16 * s + u s) (V 5 k)) k 3)) 9 (upd (V 9) k (V 16 1))
theorem zmo2_o (V : az_St) (z : Nat) (u : Nat → Nat) (s k y x : Nat) : ∀ c, c ≠ 15 → zmo2 V z u s k y x c = zfil V z u 1 s (V 5 k) y (V 7 k) x c := by
  intro c hc
  unfold zmo2
  split
  · exact zup_n hc
  · rfl
theorem zmo2_15 (V : az_St) (z : Nat) (u : Nat → Nat) (s k y x : Nat) : zmo2 V z u s k y x 15 = if V 5 k = 1 then upd (V 15) y (nI (16 * s + u s)) else V 15 := by
  unfold zmo2
  by_cases h : V 5 k = 1
  · rw [if_pos h, if_pos h]; exact zup_s
  · rw [if_neg h, if_neg h]; rfl
theorem c_move (hI : zI n z e t u V) {x : Nat} (hk : k < 160) (hy : y < 24) (h5 : V 5 k = 1 ∨ V 5 k = 2) (h6 : V 6 k = nI y) (h8 : V 8 k = nI x) (hh : zhd V n 1 s) : FX5_move V (nI k) = some (upd (V 0) s (if u s + 1 < z then 1 else 2), upd (V 2) s (nI (u s + 1)), upd (V 3) 1 (if u s + 1 < z then nI s else -1), upd (upd (V 5) (16 * s + u s) (V 5 k)) k 3, upd (V 6) (16 * s + u s) (nI y), upd (V 7) (16 * s + u s) (V 7 k), upd (V 8) (16 * s + u s) (nI x), upd (V 9) k (V 16 1), zex (V 14) y k (16 * s + u s) 4, if V 5 k = 1 then upd (V 15) y (nI (16 * s + u s)) else V 15) := by
  obtain ⟨hs10, huz⟩ := zhd_lt hI hh
  have hz := hI.D.z12
  have hp : 16 * s + u s < 160 := by omega
  have hun : V 5 (16 * s + u s) = 0 := ((hI.B (16 * s + u s) (by omega)).2 (by rw [show (16 * s + u s) / 16 = s by omega, show (16 * s + u s) % 16 = u s by omega]; omega)).1
  have hne : k ≠ 16 * s + u s := fun c => by rw [← c] at hun; rw [hun] at h5; rcases h5 with h | h <;> exact absurd h (by decide)
  unfold FX5_move
  rw [show FX3_appendAt V 1 = _ from c_app (h := 1) hI (by omega) hh, Option.bind_some]
  dsimp only
  rw [if_neg (znm (by omega)), if_pos (zin hk (by omega)), zc (by omega), c_fill hp, Option.bind_some, if_pos (zin hp (by omega)), zc (by omega), h6, zc (by omega), if_pos (zin hy (by omega)), h8, zupd_n (f := V 5) hne]
  by_cases h : V 5 k = 1
  · rw [if_pos h, if_pos h, c_exchange _ hy, Option.bind_some, c_beginToWait hk, Option.bind_some]
    rfl
  · rw [if_neg h, if_neg h, c_exchange _ hy, Option.bind_some, c_beginToWait hk, Option.bind_some]
    rfl
theorem zI_wait (hI : zI n z e t u X) (hk : k < 160) (h5 : X 5 k = 1 ∨ X 5 k = 2) (hl : ∀ y, y < 24 → ¬ X 15 y = nI k) (hw : ∀ j, j < 96 → ¬ X 14 j = nI k) : zI n z e t u (va_up (va_up X 5 (upd (X 5) k 3)) 9 (upd (X 9) k (X 16 1))) := by
  obtain ⟨hD, hS, hH, hB, hL, hW, hT⟩ := hI
  have h0 : ¬ X 5 k = 0 := by rcases h5 with h | h <;> rw [h] <;> decide
  refine ⟨hD, hS, hH, ?_, ?_, ?_, hT⟩
  · show iB e t u (upd (X 5) k 3) (X 6) (X 7) (X 8) (upd (X 9) k (X 16 1))
    intro q hq
    by_cases c : q = k
    · subst c
      rw [zupd_s, zupd_s]
      refine ⟨fun g => ?_, fun g => absurd ((hB q hq).2 g).1 h0⟩
      obtain ⟨-, g2, g3, -, -⟩ := (hB q hq).1 g
      exact ⟨Or.inr (Or.inr (Or.inl rfl)), g2, g3, fun _ => ⟨e, Nat.le_refl e, hT.1⟩, fun c => absurd rfl c⟩
    · rw [zupd_n c, zupd_n c]; exact hB q hq
  · show iL (upd (X 5) k 3) (X 6) (X 15)
    intro y hy
    rcases hL y hy with g | ⟨p, g1, g2, g3, g4⟩
    · exact Or.inl g
    · exact Or.inr ⟨p, g1, g2, by rw [zupd_n (fun c => hl y hy (by rw [g2, c]))]; exact g3, g4⟩
  · show iW (upd (X 5) k 3) (X 6) (X 13) (X 14)
    intro i hi
    refine ⟨(hW i hi).1, fun q hq => ?_⟩
    rcases (hW i hi).2 q hq with g | ⟨g0, p, g1, g2, g3, g4⟩
    · exact Or.inl g
    · exact Or.inr ⟨g0, p, g1, g2, by rw [zupd_n (fun c => hw (24 * i + q) (by omega) (by rw [g2, c]))]; exact g3, g4⟩
theorem zI_mov (hI : zI n z e t u V) {x : Nat} (hk : k < 160) (hy : y < 24) (hx : x ≤ t) (h5 : V 5 k = 1 ∨ V 5 k = 2) (h6 : V 6 k = nI y) (hh : zhd V n 1 s) : zI n z e t (zup u s) (zmov V z u s k y x) := by
  obtain ⟨hs10, huz⟩ := zhd_lt hI hh
  have hz := hI.D.z12
  have hp : 16 * s + u s < 160 := by omega
  have hun : V 5 (16 * s + u s) = 0 := ((hI.B (16 * s + u s) (by omega)).2 (by rw [show (16 * s + u s) / 16 = s by omega, show (16 * s + u s) % 16 = u s by omega]; omega)).1
  have hne : k ≠ 16 * s + u s := fun c => by rw [← c] at hun; rw [hun] at h5; rcases h5 with h | h <;> exact absurd h (by decide)
  have h1 : zI n z e t (zup u s) (zfil V z u 1 s (V 5 k) y (V 7 k) x) := zI_fil hI (by omega) hh h5 hy hx
  have h2 : zI n z e t (zup u s) (zmo2 V z u s k y x) := by
    unfold zmo2
    by_cases h : V 5 k = 1
    · rw [if_pos h]
      refine zI_live h1 hy hp ?_ ?_
      · show upd (V 5) (16 * s + u s) (V 5 k) (16 * s + u s) = 1
        rw [zupd_s, h]
      · show upd (V 6) (16 * s + u s) (nI y) (16 * s + u s) = nI y
        exact zupd_s
    · rw [if_neg h]; exact h1
  have g5 : zmo2 V z u s k y x 5 = upd (V 5) (16 * s + u s) (V 5 k) := zmo2_o V z u s k y x 5 (by decide)
  have g6 : zmo2 V z u s k y x 6 = upd (V 6) (16 * s + u s) (nI y) := zmo2_o V z u s k y x 6 (by decide)
  have g13 : zmo2 V z u s k y x 13 = V 13 := zmo2_o V z u s k y x 13 (by decide)
  have g14 : zmo2 V z u s k y x 14 = V 14 := zmo2_o V z u s k y x 14 (by decide)
  have g9 : zmo2 V z u s k y x 9 = V 9 := zmo2_o V z u s k y x 9 (by decide)
  have g16 : zmo2 V z u s k y x 16 = V 16 := zmo2_o V z u s k y x 16 (by decide)
  have h3 : zI n z e t (zup u s) (zmo3 V z u s k y x) := by
    obtain ⟨hD, hS, hH, hB, hL, hW, hT⟩ := h2
    refine ⟨hD, hS, hH, hB, hL, ?_, hT⟩
    show iW (zmo2 V z u s k y x 5) (zmo2 V z u s k y x 6) (zmo2 V z u s k y x 13) (zex (V 14) y k (16 * s + u s) 4)
    rw [g5, g6, g13]
    rw [g5, g6, g13, g14] at hW
    intro i hi
    refine ⟨(hW i hi).1, fun q hq => ?_⟩
    unfold zex
    by_cases c : (24 * i + q) / 24 < 4 ∧ (24 * i + q) % 24 = y ∧ V 14 (24 * i + q) = nI k
    · rw [if_pos c]
      rcases (hW i hi).2 q hq with g | ⟨g0, -⟩
      · rw [g] at c; exact absurd c.2.2.symm (znm (by omega))
      · refine Or.inr ⟨g0, 16 * s + u s, hp, rfl, ?_, ?_⟩
        · rw [zupd_s]; exact h5
        · rw [zupd_s]
          congr 1
          omega
    · rw [if_neg c]; exact (hW i hi).2 q hq
  have key := zI_wait (k := k) h3 hk (by
      show zmo2 V z u s k y x 5 k = 1 ∨ zmo2 V z u s k y x 5 k = 2
      rw [g5, zupd_n hne]; exact h5) (fun q hq c => by
      have c : zmo2 V z u s k y x 15 q = nI k := c
      rw [zmo2_15] at c
      by_cases h : V 5 k = 1
      · rw [if_pos h, zupd] at c
        by_cases d : q = y
        · rw [if_pos d, zeq (by omega) (by omega)] at c
          exact hne c.symm
        · rw [if_neg d] at c
          rcases hI.L q hq with g | ⟨p2, f1, f2, f3, f4⟩
          · rw [g] at c; exact znm (by omega) c.symm
          · rw [f2, zeq (by omega) (by omega)] at c
            rw [c, h6, zeq (by omega) (by omega)] at f4
            exact d f4.symm
      · rw [if_neg h] at c
        rcases hI.L q hq with g | ⟨p2, f1, f2, f3, f4⟩
        · rw [g] at c; exact znm (by omega) c.symm
        · rw [f2, zeq (by omega) (by omega)] at c
          rw [c] at f3
          exact h f3) (fun j hj c => by
      have c : zex (V 14) y k (16 * s + u s) 4 j = nI k := c
      unfold zex at c
      by_cases d : j / 24 < 4 ∧ j % 24 = y ∧ V 14 j = nI k
      · rw [if_pos d, zeq (by omega) (by omega)] at c
        exact hne c.symm
      · rw [if_neg d] at c
        have hw := (hI.W (j / 24) (by omega)).2 (j % 24) (by omega)
        rw [show 24 * (j / 24) + j % 24 = j by omega] at hw
        rcases hw with g | ⟨g0, p2, f1, f2, f3, f4⟩
        · rw [g] at c; exact znm (by omega) c.symm
        · rw [f2, zeq (by omega) (by omega)] at c
          rw [c, h6, zeq (by omega) (by omega)] at f4
          exact d ⟨by omega, f4.symm, by rw [f2, c]⟩)
  have e5 : zmo3 V z u s k y x 5 = upd (V 5) (16 * s + u s) (V 5 k) := g5
  have e9 : zmo3 V z u s k y x 9 = V 9 := g9
  have e16 : zmo3 V z u s k y x 16 = V 16 := g16
  rw [e5, e9, e16] at key
  exact key
/-- the reference's row with the snapshots' rows as f -/
theorem zR_rows {f : Nat → Int32} (hR : zR X a) (h1 : ∀ i, ¬ (868 ≤ i ∧ i < 964) → b i = a i) (h2 : ∀ j, j < 96 → b (868 + j) = f j) : zR (va_up X 14 f) b :=
  ⟨zN_c hR.N (fun i hi => h1 i (by omega)), zS_c hR.S (fun i _ hi => h1 i (by omega)), zB_c hR.B (fun i _ hi => h1 i (by omega)), zL_c hR.L (fun i _ hi => h1 i (by omega)), zT_c hR.T (fun i _ hi => h1 i (by omega)), fun j hj => h2 j hj⟩
/-- rows of the reference with p in place of k, in the first j snapshots -/
def zrx (a : Nat → Int32) (q : Nat → Bool) (y p j : Nat) : Nat → Int32 := fun i => if 868 ≤ i ∧ (i - 868) / 24 < j ∧ (i - 868) % 24 = y ∧ q ((i - 868) / 24) = true then nI p else a i
theorem zrx_0 (a : Nat → Int32) (q : Nat → Bool) (y p : Nat) : zrx a q y p 0 = a := by funext i; unfold zrx; rw [if_neg (by omega)]
theorem zrx_t {q : Nat → Bool} {j : Nat} (hy : y < 24) (h : q j = true) : upd (zrx a q y p j) (868 + (24 * j + y)) (nI p) = zrx a q y p (j + 1) := by
  funext i
  rw [zupd]
  unfold zrx
  by_cases c : i = 868 + (24 * j + y)
  · rw [if_pos c, if_pos ⟨by omega, by omega, by omega, by rw [show (i - 868) / 24 = j by omega]; exact h⟩]
  · rw [if_neg c]
    by_cases d : 868 ≤ i ∧ (i - 868) / 24 < j ∧ (i - 868) % 24 = y ∧ q ((i - 868) / 24) = true
    · rw [if_pos d, if_pos ⟨d.1, by omega, d.2.2⟩]
    · rw [if_neg d, if_neg (fun g => d ⟨g.1, by have := g.1; have := g.2.1; have := g.2.2.1; omega, g.2.2⟩)]
theorem zrx_f {q : Nat → Bool} {j : Nat} (hy : y < 24) (h : ¬ q j = true) : zrx a q y p j = zrx a q y p (j + 1) := by
  funext i
  unfold zrx
  by_cases c : (i - 868) / 24 = j
  · rw [if_neg (by omega), if_neg (fun g => h (by rw [← c]; exact g.2.2.2))]
  · by_cases d : 868 ≤ i ∧ (i - 868) / 24 < j ∧ (i - 868) % 24 = y ∧ q ((i - 868) / 24) = true
    · rw [if_pos d, if_pos ⟨d.1, by omega, d.2.2⟩]
    · rw [if_neg d, if_neg (fun g => d ⟨g.1, by have := g.2.1; omega, g.2.2⟩)]
theorem zrx_o {q : Nat → Bool} {j i : Nat} (hj : j ≤ 4) (h : ¬ (868 ≤ i ∧ i < 964)) : zrx a q y p j i = a i := by
  unfold zrx
  rw [if_neg (by omega)]
theorem m_moves_loop (M : az_St) (w : Nat → Int32) (q : Nat → Bool) (hk : k < 160) (hy : y < 24) : FX7_moves_L64 az_fuel M (nI k) w (nI y) (zor 4 q) (nI p) 0 = some (upd (upd (zrx w q y p 4) (40 + 5 * k) 3) (40 + 5 * k + 4) (w 3)) := by
  have key := for0 (fun m (c : Nat → Int32) i => FX7_moves_L64 m M (nI k) c (nI y) (zor 4 q) (nI p) i) (fun j => zrx w q y p j) 4 (r := some (upd (upd (zrx w q y p 4) (40 + 5 * k) 3) (40 + 5 * k + 4) (w 3))) (fun m j hj => ?_) (fun m => ?_) az_fuel (zfu (by omega))
  · try dsimp only at key
    rw [zrx_0] at key
    exact key
  · try dsimp only
    rw [FX7_moves_L64_s, if_neg (by rw [show (4 : Int32) = nI 4 from rfl, zle (by omega) (by omega)]; omega), z24l, zp868, zadd, if_pos (zin (by omega) (by omega)), zc (by omega), zs j, Nat.add_assoc 868 (24 * j) y]
    by_cases h : q j = true
    · rw [if_pos (((zor4 q).2 j hj).1.mpr h), zrx_t hy h]
      rfl
    · rw [if_neg (fun c => h (((zor4 q).2 j hj).1.mp c)), zrx_f hy h]
  · try dsimp only
    rw [FX7_moves_L64_s, if_pos (by decide), m_waits hk, Option.bind_some, zup_s, zrx_o (i := 3) (by omega) (by omega)]
theorem m_moves (hR : zR V (M 0)) (hI : zI n z e t u V) {x : Nat} (hk : k < 160) (hy : y < 24) (h5 : V 5 k = 1 ∨ V 5 k = 2) (h6 : V 6 k = nI y) (h8 : V 8 k = nI x) (hh : zhd V n 1 s) : ∃ a', FX7_moves M (nI k) = some a' ∧ zR (zmov V z u s k y x) a' ∧ ∀ i, 964 ≤ i → a' i = M 0 i := by
  obtain ⟨hs10, huz⟩ := zhd_lt hI hh
  have hz := hI.D.z12
  have hp : 16 * s + u s < 160 := by omega
  have hun : V 5 (16 * s + u s) = 0 := ((hI.B (16 * s + u s) (by omega)).2 (by rw [show (16 * s + u s) / 16 = s by omega, show (16 * s + u s) % 16 = u s by omega]; omega)).1
  have hne : k ≠ 16 * s + u s := fun c => by rw [← c] at hun; rw [hun] at h5; rcases h5 with h | h <;> exact absurd h (by decide)
  have h0 : ¬ V 5 k = 0 := by rcases h5 with h | h <;> rw [h] <;> decide
  obtain ⟨a1, e1, r1, f1⟩ := m_app (y := y) (x := x) (st := V 5 k) (v := V 7 k) hR hI (show 1 < 2 by omega) hh h5
  unfold FX7_moves
  rw [m_b1 hR hk h0, Option.bind_some, h6, m_snapOf hR hI hk hy h0 h6, Option.bind_some, m_b0 hR hk, Option.bind_some, m_b2 hR hk h0, Option.bind_some, m_b3 hR hk h0, Option.bind_some, h8, show FX7_appends M 1 (nI y) (V 7 k) (nI x) (V 5 k) = _ from e1, Option.bind_some]
  unfold az_lt
  dsimp only
  rw [zp840, if_pos (zin (by omega) (by omega)), zc (by omega), m_moves_loop M _ _ hk hy, m_moves_loop M _ _ hk hy]
  have fin : ∀ (w : Nat → Int32), zR (zmo2 V z u s k y x) w → (∀ i, 964 ≤ i → w i = M 0 i) → zR (zmov V z u s k y x) (upd (upd (zrx w (zhs (V 14) y k) y (16 * s + u s) 4) (40 + 5 * k) 3) (40 + 5 * k + 4) (w 3)) ∧ ∀ i, 964 ≤ i → upd (upd (zrx w (zhs (V 14) y k) y (16 * s + u s) 4) (40 + 5 * k) 3) (40 + 5 * k + 4) (w 3) i = M 0 i := by
    intro w hw ho
    refine ⟨?_, fun i hi => by rw [zupd_n (by omega), zupd_n (by omega), zrx_o (by omega) (by omega)]; exact ho i hi⟩
    have g14 : zmo2 V z u s k y x 14 = V 14 := zmo2_o V z u s k y x 14 (by decide)
    have g5 : zmo2 V z u s k y x 5 = upd (V 5) (16 * s + u s) (V 5 k) := zmo2_o V z u s k y x 5 (by decide)
    have g9 : zmo2 V z u s k y x 9 = V 9 := zmo2_o V z u s k y x 9 (by decide)
    have g16 : zmo2 V z u s k y x 16 = V 16 := zmo2_o V z u s k y x 16 (by decide)
    have r3 : zR (zmo3 V z u s k y x) (zrx w (zhs (V 14) y k) y (16 * s + u s) 4) := by
      refine zR_rows hw (fun i hi => zrx_o (by omega) hi) (fun j hj => ?_)
      unfold zrx zex zhs
      have hwj := hw.W j hj
      rw [g14] at hwj
      rw [hwj, show 868 + j - 868 = j by omega]
      by_cases c : j / 24 < 4 ∧ j % 24 = y ∧ V 14 j = nI k
      · rw [if_pos c, if_pos ⟨by omega, c.1, c.2.1, by rw [decide_eq_true_eq, show 24 * (j / 24) + y = j by omega]; exact c.2.2⟩]
      · rw [if_neg c, if_neg (fun g => c ⟨g.2.1, g.2.2.1, by have h2 := g.2.2.2; have := g.2.2.1; rw [decide_eq_true_eq, show 24 * (j / 24) + y = j by omega] at h2; exact h2⟩)]
    have e3 : w 3 = V 16 1 := by
      have := hw.N.2.2.2.1
      rw [g16] at this
      exact this
    rw [e3]
    have := zR_wait (x := V 16 1) r3 hk (by
      show zmo2 V z u s k y x 5 k ≠ 0
      rw [g5, zupd_n hne]; exact h0)
    have e5 : zmo3 V z u s k y x 5 = upd (V 5) (16 * s + u s) (V 5 k) := g5
    have e9 : zmo3 V z u s k y x 9 = V 9 := g9
    rw [e5, e9] at this
    exact this
  by_cases h : V 5 k = 1
  · rw [if_pos h]
    have r2 : zR (zmo2 V z u s k y x) (upd a1 (840 + y) (nI (16 * s + u s))) := by
      unfold zmo2
      rw [if_pos h]
      exact zR_live r1 hy _
    exact ⟨_, rfl, fin _ r2 (fun i hi => by rw [zupd_n (by omega)]; exact f1 i hi)⟩
  · rw [if_neg h]
    have r2 : zR (zmo2 V z u s k y x) a1 := by
      unfold zmo2
      rw [if_neg h]
      exact r1
    exact ⟨_, rfl, fin _ r2 f1⟩
end MV
