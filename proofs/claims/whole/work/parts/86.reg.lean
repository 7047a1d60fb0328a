/-! ERASING, on both sides -/
abbrev z9 : Type := (Nat → Int32) × (Nat → Int32) × (Nat → Int32) × (Nat → Int32) × (Nat → Int32) × (Nat → Int32) × (Nat → Int32) × (Nat → Int32) × (Nat → Int32)
def zV9 (V : az_St) (x : z9) : az_St := va_up (va_up (va_up (va_up (va_up (va_up (va_up (va_up (va_up V 0 x.1) 1 x.2.1) 2 x.2.2.1) 5 x.2.2.2.1) 6 x.2.2.2.2.1) 7 x.2.2.2.2.2.1) 8 x.2.2.2.2.2.2.1) 9 x.2.2.2.2.2.2.2.1) 10 x.2.2.2.2.2.2.2.2
/-- X' is X with the segment s erased -/
def zEr (X X' : az_St) (s z : Nat) : Prop := X' 0 = upd (X 0) s 0 ∧ X' 1 = upd (X 1) s (X 1 s + 1) ∧ X' 2 = upd (X 2) s 0 ∧ X' 3 = X 3 ∧ X' 4 = X 4 ∧ X' 5 = zput (X 5) (16 * s) z 0 ∧ X' 6 = zput (X 6) (16 * s) z (-1) ∧ X' 7 = zput (X 7) (16 * s) z (-1) ∧ X' 8 = zput (X 8) (16 * s) z (-1) ∧ X' 9 = zput (X 9) (16 * s) z (-1) ∧ X' 10 = zput (X 10) (16 * s) z 0 ∧ X' 13 = X 13 ∧ X' 14 = X 14 ∧ X' 15 = X 15 ∧ X' 16 = X 16
/-- the reference's row with the segment s erased: its blocks, then its numbers -/
def zeb (a : Nat → Int32) (s j : Nat) : Nat → Int32 := fun i => if 40 ≤ i ∧ (i - 40) % 5 = 0 ∧ 16 * s ≤ (i - 40) / 5 ∧ (i - 40) / 5 < 16 * s + j then 0 else a i
def zea (a : Nat → Int32) (s z : Nat) : Nat → Int32 := upd (upd (upd (zeb a s z) (10 + 3 * s) 0) (10 + 3 * s + 1) 0) (10 + 3 * s + 2) (a (10 + 3 * s + 2) + 1)
section EY
variable {M V X X' : az_St} {a b : Nat → Int32} {n z e t : Nat} {u : Nat → Nat} {k s : Nat}
theorem zeb_o {j i : Nat} (h : i < 40 ∨ ¬ (i - 40) % 5 = 0 ∨ (i - 40) / 5 < 16 * s ∨ 16 * s + j ≤ (i - 40) / 5) : zeb a s j i = a i := by
  unfold zeb
  rw [if_neg (by omega)]
theorem zeb_0 (a : Nat → Int32) (s : Nat) : zeb a s 0 = a := by funext i; exact zeb_o (by omega)
theorem zeb_s (a : Nat → Int32) (s j : Nat) : upd (zeb a s j) (40 + 5 * (16 * s + j)) 0 = zeb a s (j + 1) := by
  funext i
  rw [zupd]
  unfold zeb
  by_cases c : i = 40 + 5 * (16 * s + j)
  · rw [if_pos c, if_pos (by omega)]
  · rw [if_neg c]
    by_cases d : 40 ≤ i ∧ (i - 40) % 5 = 0 ∧ 16 * s ≤ (i - 40) / 5 ∧ (i - 40) / 5 < 16 * s + j
    · rw [if_pos d, if_pos (by omega)]
    · rw [if_neg d, if_neg (by omega)]
theorem m_erases (hs : s < 10) (hz : z ≤ 12) (h1 : M 0 1 = nI z) : FX7_erases M (nI s) = some (zea (M 0) s z) := by
  unfold FX7_erases
  rw [z16l]
  have key := forR (fun m (c : Nat → Int32) y => FX7_erases_L5 m M (nI s) c y) (fun j => zeb (M 0) s j) (16 * s) z (r := some (zea (M 0) s z)) (fun m j hj => ?_) (fun m => ?_) az_fuel (zfu (by omega))
  · try dsimp only at key
    rw [zeb_0] at key
    exact key
  · try dsimp only
    rw [FX7_erases_L5_s, show zeb (M 0) s j (1 : Int32).toNatClampNeg = nI z from by rw [show (1 : Int32).toNatClampNeg = 1 from rfl, zeb_o (by omega)]; exact h1, z16l, zadd, if_neg (by rw [zle (by omega) (by omega)]; omega), m_setBlk0 (by omega), Option.bind_some, zup_s, zeb_s, zs (16 * s + j)]
  · try dsimp only
    rw [FX7_erases_L5_s, show zeb (M 0) s z (1 : Int32).toNatClampNeg = nI z from by rw [show (1 : Int32).toNatClampNeg = 1 from rfl, zeb_o (by omega)]; exact h1, z16l, zadd, if_pos (by rw [zle (by omega) (by omega)]; exact Nat.le_refl _), m_setSeg0 hs, Option.bind_some, zup_s, m_setSeg1 hs, Option.bind_some, zup_s, m_getSeg2 hs, Option.bind_some, zup_s, m_setSeg2 hs, Option.bind_some, zup_s]
    unfold zea
    rw [zupd_n (f := upd (zeb (M 0) s z) (10 + 3 * s) 0) (j := 10 + 3 * s + 2) (by omega), zupd_n (f := zeb (M 0) s z) (j := 10 + 3 * s + 2) (by omega), zeb_o (i := 10 + 3 * s + 2) (by omega)]
theorem zea_o {i : Nat} (h : i < 10 ∨ (i < 40 ∧ ¬ (10 + 3 * s ≤ i ∧ i ≤ 10 + 3 * s + 2)) ∨ (40 ≤ i ∧ ¬ (i - 40) % 5 = 0) ∨ (40 ≤ i ∧ (i - 40) / 5 < 16 * s) ∨ (40 ≤ i ∧ 16 * s + z ≤ (i - 40) / 5)) (hs : s < 10) : zea a s z i = a i := by
  unfold zea
  rw [zupd_n (by omega), zupd_n (by omega), zupd_n (by omega), zeb_o (by omega)]
theorem zR_era (hR : zR X a) (hE : zEr X X' s z) (hs : s < 10) (hz : z ≤ 12) : zR X' (zea a s z) := by
  obtain ⟨e0, e1, e2, e3, e4, e5, e6, e7, e8, e9, e10, e13, e14, e15, e16⟩ := hE
  unfold zR
  rw [e0, e1, e2, e3, e4, e5, e6, e7, e8, e9, e13, e14, e15, e16]
  refine ⟨zN_c hR.N (fun i hi => zea_o (by omega) hs), ?_, ?_, zL_c hR.L (fun i _ hi => zea_o (by omega) hs), zT_c hR.T (fun i _ hi => zea_o (by omega) hs), zW_c hR.W (fun i _ hi => zea_o (by omega) hs)⟩
  · intro q hq
    by_cases c : q = s
    · subst c
      rw [zupd_s, zupd_s, zupd_s]
      unfold zea
      rw [zupd_n (f := upd (upd (zeb a q z) (10 + 3 * q) 0) (10 + 3 * q + 1) 0) (j := 10 + 3 * q) (by omega), zupd_n (f := upd (zeb a q z) (10 + 3 * q) 0) (j := 10 + 3 * q) (by omega), zupd_s, zupd_n (j := 10 + 3 * q + 1) (by omega), zupd_s, zupd_s, (hR.S q hq).2.2]
      exact ⟨rfl, rfl, rfl⟩
    · rw [zupd_n c, zupd_n c, zupd_n c, zea_o (by omega) hs, zea_o (by omega) hs, zea_o (by omega) hs]
      exact hR.S q hq
  · intro q hq
    obtain ⟨h1, h2, h3⟩ := hR.B q hq
    rw [zea_o (i := 40 + 5 * q + 1) (by omega) hs, zea_o (i := 40 + 5 * q + 2) (by omega) hs, zea_o (i := 40 + 5 * q + 3) (by omega) hs, zea_o (i := 40 + 5 * q + 4) (by omega) hs]
    unfold zput
    by_cases c : 16 * s ≤ q ∧ q < 16 * s + z
    · rw [if_pos c]
      refine ⟨?_, fun g => absurd rfl g, fun g => absurd g (by decide)⟩
      unfold zea
      rw [zupd_n (by omega), zupd_n (by omega), zupd_n (by omega)]
      unfold zeb
      rw [if_pos (by omega)]
    · rw [if_neg c, if_neg c, if_neg c, if_neg c, if_neg c, zea_o (i := 40 + 5 * q) (by omega) hs]
      exact ⟨h1, h2, h3⟩
def zer (u : Nat → Nat) (s : Nat) : Nat → Nat := fun i => if i = s then 0 else u i
theorem zI_era (hI : zI n z e t u X) (hE : zEr X X' s z) (hs : s < 10) (h2 : X 0 s = 2) (hd : ∀ b, b < z → X 5 (16 * s + b) = 4) : zI n z e t (zer u s) X' := by
  obtain ⟨e0, e1, e2, e3, e4, e5, e6, e7, e8, e9, e10, e13, e14, e15, e16⟩ := hE
  obtain ⟨hD, hS, hH, hB, hL, hW, hT⟩ := hI
  have hz := hD.z12
  have us : zer u s s = 0 := if_pos rfl
  have un : ∀ i, i ≠ s → zer u s i = u i := fun i hi => if_neg hi
  have huz : u s = z := by
    rcases (hS s hs).2 with ⟨h0, -⟩ | ⟨-, h0, -⟩ | ⟨-, -, h0⟩
    · rw [h2] at h0; exact absurd h0 (by decide)
    · rw [h2] at h0; exact absurd h0 (by decide)
    · exact h0
  have live : ∀ p, p < 160 → (X 5 p = 1 ∨ X 5 p = 2) → ¬ (16 * s ≤ p ∧ p < 16 * s + z) := by
    intro p hp h c
    have := hd (p - 16 * s) (by omega)
    rw [show 16 * s + (p - 16 * s) = p by omega] at this
    rw [this] at h
    rcases h with h | h <;> exact absurd h (by decide)
  unfold zI
  rw [e0, e2, e3, e4, e5, e6, e7, e8, e9, e13, e14, e15, e16]
  refine ⟨hD, ?_, ?_, ?_, ?_, ?_, hT⟩
  · intro i hi
    by_cases c : i = s
    · subst c
      rw [zupd_s, zupd_s, us]
      exact ⟨rfl, Or.inl ⟨rfl, rfl⟩⟩
    · rw [zupd_n c, zupd_n c, un i c]; exact hS i hi
  · refine ⟨fun h hh => ?_, hH.2⟩
    rcases hH.1 h hh with c | ⟨i, c1, c2, c3⟩
    · exact Or.inl c
    · refine Or.inr ⟨i, c1, c2, ?_⟩
      rw [zupd_n (fun c => by rw [c, h2] at c3; exact absurd c3 (by decide))]
      exact c3
  · intro q hq
    unfold zput
    by_cases c : 16 * s ≤ q ∧ q < 16 * s + z
    · rw [if_pos c, if_pos c, if_pos c, if_pos c, if_pos c, show q / 16 = s by omega, us]
      exact ⟨fun g => absurd g (by omega), fun _ => ⟨rfl, rfl, rfl, rfl, rfl⟩⟩
    · rw [if_neg c, if_neg c, if_neg c, if_neg c, if_neg c]
      by_cases d : q / 16 = s
      · rw [d, us]
        refine ⟨fun g => absurd g (by omega), fun _ => ?_⟩
        exact (hB q hq).2 (by rw [d, huz]; omega)
      · rw [un _ d]; exact hB q hq
  · intro y hy
    rcases hL y hy with g | ⟨p, g1, g2, g3, g4⟩
    · exact Or.inl g
    · have c := live p g1 (Or.inl g3)
      refine Or.inr ⟨p, g1, g2, ?_, ?_⟩
      · unfold zput; rw [if_neg c]; exact g3
      · unfold zput; rw [if_neg c]; exact g4
  · intro i hi
    refine ⟨(hW i hi).1, fun q hq => ?_⟩
    rcases (hW i hi).2 q hq with g | ⟨g0, p, g1, g2, g3, g4⟩
    · exact Or.inl g
    · have c := live p g1 g3
      refine Or.inr ⟨g0, p, g1, g2, ?_, ?_⟩
      · unfold zput; rw [if_neg c]; exact g3
      · unfold zput; rw [if_neg c]; exact g4
theorem c_segErase (hs : s < 10) : FX3_erase X (nI s) = some (upd (X 0) s 0, upd (X 1) s (X 1 s + 1), upd (X 2) s 0) := by
  unfold FX3_erase az_lt
  rw [if_pos (zin hs (by omega)), zc (by omega)]
def zeT (x : z9) (s z : Nat) : z9 := (upd x.1 s 0, upd x.2.1 s (x.2.1 s + 1), upd x.2.2.1 s 0, zput x.2.2.2.1 (16 * s) z 0, zput x.2.2.2.2.1 (16 * s) z (-1), zput x.2.2.2.2.2.1 (16 * s) z (-1), zput x.2.2.2.2.2.2.1 (16 * s) z (-1), zput x.2.2.2.2.2.2.2.1 (16 * s) z (-1), zput x.2.2.2.2.2.2.2.2 (16 * s) z 0)
theorem zeT_er (V : az_St) (x : z9) (s z : Nat) : zEr (zV9 V x) (zV9 V (zeT x s z)) s z := ⟨rfl, rfl, rfl, rfl, rfl, rfl, rfl, rfl, rfl, rfl, rfl, rfl, rfl, rfl, rfl⟩
/-- how blocks change when dead segments are erased -/
def zKp (D X : az_St) : Prop := ∀ k, k < 160 → (X 5 k = D 5 k ∧ X 9 k = D 9 k ∧ X 10 k = D 10 k) ∨ (D 5 k = 4 ∧ X 5 k = 0 ∧ X 10 k = 0)
theorem reg_both (hR : zR V (M 0)) (hI : zI n z e t u V) : ∃ (x : z9) (a' : Nat → Int32) (u' : Nat → Nat), FX5_regain V = some (nI (zcnt 160 (zwd V e 0)), x) ∧ FX7_reclaims M = some (nI (zcnt 160 (zwd V e 0)), a') ∧ zR (zV9 V x) a' ∧ zI n z e t u' (zV9 V x) ∧ (∀ i, 964 ≤ i → a' i = M 0 i) ∧ zKp (zdie V e) (zV9 V x) := by
  have hn := hI.D.n10
  have hn3 := hI.D.n3
  have hz := hI.D.z12
  have hz2 := hI.D.z2
  obtain ⟨c, ec⟩ : ∃ c, c = nI (zcnt 160 (zwd V e 0)) := ⟨_, rfl⟩
  have start := for2 (fun m (x : z9) y => FX5_regain_L16 m V x.1 x.2.1 x.2.2.1 x.2.2.2.1 x.2.2.2.2.1 x.2.2.2.2.2.1 x.2.2.2.2.2.2.1 x.2.2.2.2.2.2.2.1 x.2.2.2.2.2.2.2.2 c y) (fun m (w : Nat → Int32) y => FX7_reclaims_L64 m M w c y)
    (fun _ x w => zR (zV9 V x) w ∧ (∃ u', zI n z e t u' (zV9 V x)) ∧ (∀ i, 964 ≤ i → w i = M 0 i) ∧ zKp (zdie V e) (zV9 V x)) 0 n (fun j hj x w hrel => ?_)
    (V 0, V 1, V 2, (zdie V e) 5, V 6, V 7, V 8, (zdie V e) 9, V 10) (zda (M 0) (zwd V e 0) (16 * n))
    ⟨zR_die hR hI, ⟨u, zI_die hI⟩, fun i hi => zda_o (by omega), fun k _ => Or.inl ⟨rfl, rfl, rfl⟩⟩
  · obtain ⟨x, w, ⟨r1, ⟨u', r2⟩, r3, r4⟩, f, g⟩ := start
    refine ⟨x, w, u', ?_, ?_, r1, r2, r3, r4⟩
    · unfold FX5_regain
      rw [c_letDie2 hI, Option.bind_some]
      have := f (az_fuel - n)
      rw [show n + (az_fuel - n) = az_fuel by have : n < az_fuel := zfu (by omega); omega] at this
      dsimp only at this ⊢
      rw [← ec]
      refine this.trans ?_
      have hf : az_fuel - n = (az_fuel - n - 1) + 1 := by have : n < az_fuel := zfu (by omega); omega
      rw [hf, FX5_regain_L16_s, hI.D.e0, Nat.zero_add, if_pos (by rw [zle (by omega) (by omega)]; exact Nat.le_refl _)]
    · rw [m_reclaims_die hR hI, ← ec]
      have := g (az_fuel - n)
      rw [show n + (az_fuel - n) = az_fuel by have : n < az_fuel := zfu (by omega); omega] at this
      refine this.trans ?_
      have hf : az_fuel - n = (az_fuel - n - 1) + 1 := by have : n < az_fuel := zfu (by omega); omega
      rw [hf, FX7_reclaims_L64_s, show w (0 : Int32).toNatClampNeg = nI n from r1.a0 hI.D, Nat.zero_add, if_pos (by rw [zle (by omega) (by omega)]; exact Nat.le_refl _)]
  · obtain ⟨r1, ⟨u', r2⟩, r3, r4⟩ := hrel
    have hRw : zR (zV9 V x) ((va_up M 0 w) 0) := r1
    have c0 : (zV9 V x) 0 j = x.1 j := rfl
    have cl : FX5_blocksIn (zV9 V x) (nI j) 4 = some (nI (zst x.2.2.2.1 j z 4)) := c_blocksIn r2.D (by omega) 4
    have ml : FX7_inState (va_up M 0 w) (nI j) 4 = some (nI (zst x.2.2.2.1 j z 4)) := m_inState hRw r2.D (by omega) 4
    have hle : zst x.2.2.2.1 j z 4 ≤ z := zcnt_le _ _
    have a0 : w (0 : Int32).toNatClampNeg = nI n := r1.a0 r2.D
    have a1 : w (1 : Int32).toNatClampNeg = nI z := r1.a1 r2.D
    have ms : FX7_ofSegment (va_up M 0 w) (nI j) 0 = some (x.1 j) := m_s0 hRw (by omega)
    have both : ∀ (x' : z9) (w' : Nat → Int32), (if x.1 j = 2 ∧ zst x.2.2.2.1 j z 4 = z then x' = zeT x j z ∧ w' = zea w j z else x' = x ∧ w' = w) →
        (∀ m, FX5_regain_L16 (m + 1) V x.1 x.2.1 x.2.2.1 x.2.2.2.1 x.2.2.2.2.1 x.2.2.2.2.2.1 x.2.2.2.2.2.2.1 x.2.2.2.2.2.2.2.1 x.2.2.2.2.2.2.2.2 c (nI (0 + j)) = FX5_regain_L16 m V x'.1 x'.2.1 x'.2.2.1 x'.2.2.2.1 x'.2.2.2.2.1 x'.2.2.2.2.2.1 x'.2.2.2.2.2.2.1 x'.2.2.2.2.2.2.2.1 x'.2.2.2.2.2.2.2.2 c (nI (0 + j + 1))) ∧
        (∀ m, FX7_reclaims_L64 (m + 1) M w c (nI (0 + j)) = FX7_reclaims_L64 m M w' c (nI (0 + j + 1))) := by
      intro x' w' hx
      rw [Nat.zero_add]
      refine ⟨fun m => ?_, fun m => ?_⟩
      · rw [FX5_regain_L16_s, hI.D.e0, if_neg (by rw [zle (by omega) (by omega)]; omega), if_pos (zin (by omega) (by omega)), zc (by omega), zs j, hI.D.e1]
        by_cases h2 : x.1 j = 2
        · rw [if_pos h2]
          refine (congrArg (fun q => Option.bind q _) cl).trans ?_
          rw [Option.bind_some]
          by_cases h4 : zst x.2.2.2.1 j z 4 = z
          · rw [if_pos ⟨h2, h4⟩] at hx
            rw [if_pos (by rw [h4]), c_segErase (by omega), Option.bind_some, z16r, zadd, c_erase _ (by omega), Option.bind_some, hx.1]
            rfl
          · rw [if_neg (fun g => h4 g.2)] at hx
            rw [if_neg (by rw [zeq (by omega) (by omega)]; exact h4), hx.1]
        · rw [if_neg (fun g => h2 g.1)] at hx
          rw [if_neg h2, hx.1]
      · rw [FX7_reclaims_L64_s, a0, if_neg (by rw [zle (by omega) (by omega)]; omega), ms, Option.bind_some, ml, Option.bind_some, a1, zs j]
        by_cases h2 : x.1 j = 2
        · rw [if_pos h2]
          by_cases h4 : zst x.2.2.2.1 j z 4 = z
          · rw [if_pos ⟨h2, h4⟩] at hx
            rw [if_pos (by rw [h4]), m_erases (M := va_up M 0 w) (by omega) hz a1, Option.bind_some, hx.2]
            rfl
          · rw [if_neg (fun g => h4 g.2)] at hx
            rw [if_neg (by rw [zeq (by omega) (by omega)]; exact h4), hx.2]
        · rw [if_neg (fun g => h2 g.1)] at hx
          rw [if_neg h2, hx.2]
    by_cases hc : x.1 j = 2 ∧ zst x.2.2.2.1 j z 4 = z
    · obtain ⟨b1, b2⟩ := both (zeT x j z) (zea w j z) (by rw [if_pos hc]; exact ⟨rfl, rfl⟩)
      have hd : ∀ b, b < z → (zV9 V x) 5 (16 * j + b) = 4 := fun b hb => by
        have := zcnt_full.mp hc.2 b hb
        exact of_decide_eq_true this
      refine ⟨zeT x j z, zea w j z, ⟨zR_era r1 (zeT_er V x j z) (by omega) hz, ⟨zer u' j, zI_era r2 (zeT_er V x j z) (by omega) hc.1 hd⟩, fun i hi => by rw [zea_o (by omega) (by omega)]; exact r3 i hi, fun k hk => ?_⟩, b1, b2⟩
      show (zput x.2.2.2.1 (16 * j) z 0 k = _ ∧ zput x.2.2.2.2.2.2.2.1 (16 * j) z (-1) k = _ ∧ zput x.2.2.2.2.2.2.2.2 (16 * j) z 0 k = _) ∨ (_ ∧ zput x.2.2.2.1 (16 * j) z 0 k = 0 ∧ zput x.2.2.2.2.2.2.2.2 (16 * j) z 0 k = 0)
      unfold zput
      by_cases g : 16 * j ≤ k ∧ k < 16 * j + z
      · rw [if_pos g, if_pos g, if_pos g]
        refine Or.inr ⟨?_, rfl, rfl⟩
        have h4 := hd (k - 16 * j) (by omega)
        rw [show 16 * j + (k - 16 * j) = k by omega] at h4
        rcases r4 k hk with ⟨g1, -, -⟩ | ⟨g1, -, -⟩
        · rw [← g1]; exact h4
        · exact g1
      · rw [if_neg g, if_neg g, if_neg g]; exact r4 k hk
    · obtain ⟨b1, b2⟩ := both x w (by rw [if_neg hc]; exact ⟨rfl, rfl⟩)
      exact ⟨x, w, ⟨r1, ⟨u', r2⟩, r3, r4⟩, b1, b2⟩
end EY
