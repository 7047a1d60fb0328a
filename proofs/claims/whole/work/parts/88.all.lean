/-! MOVING A SEGMENT, on both sides -/
abbrev z11 : Type := (Nat → Int32) × (Nat → Int32) × (Nat → Int32) × (Nat → Int32) × (Nat → Int32) × (Nat → Int32) × (Nat → Int32) × (Nat → Int32) × (Nat → Int32) × (Nat → Int32)
/-- V with what a move alters; the numbers (16) stay -/
def zV11 (V : az_St) (x : z11) : az_St := va_up (va_up (va_up (va_up (va_up (va_up (va_up (va_up (va_up (va_up (va_up V 0 x.1) 2 x.2.1) 3 x.2.2.1) 5 x.2.2.2.1) 6 x.2.2.2.2.1) 7 x.2.2.2.2.2.1) 8 x.2.2.2.2.2.2.1) 9 x.2.2.2.2.2.2.2.1) 14 x.2.2.2.2.2.2.2.2.1) 15 x.2.2.2.2.2.2.2.2.2) 16 (V 16)
section AY
variable {M V X X' : az_St} {a b : Nat → Int32} {n z e t : Nat} {u : Nat → Nat} {k s y : Nat}
theorem zR_e (h : zR X a) (he : ∀ c, c < 17 → X' c = X c) : zR X' a := by
  unfold zR
  rw [he 0 (by omega), he 1 (by omega), he 2 (by omega), he 3 (by omega), he 4 (by omega), he 5 (by omega), he 6 (by omega), he 7 (by omega), he 8 (by omega), he 9 (by omega), he 13 (by omega), he 14 (by omega), he 15 (by omega), he 16 (by omega)]
  exact h
theorem zI_e (h : zI n z e t u X) (he : ∀ c, c < 17 → X' c = X c) : zI n z e t u X' := by
  unfold zI
  rw [he 0 (by omega), he 2 (by omega), he 3 (by omega), he 4 (by omega), he 5 (by omega), he 6 (by omega), he 7 (by omega), he 8 (by omega), he 9 (by omega), he 13 (by omega), he 14 (by omega), he 15 (by omega), he 16 (by omega)]
  exact h
theorem zc17 {P : Nat → Prop} (h0 : P 0) (h1 : P 1) (h2 : P 2) (h3 : P 3) (h4 : P 4) (h5 : P 5) (h6 : P 6) (h7 : P 7) (h8 : P 8) (h9 : P 9) (h10 : P 10) (h11 : P 11) (h12 : P 12) (h13 : P 13) (h14 : P 14) (h15 : P 15) (h16 : P 16) : ∀ c, c < 17 → P c := by
  intro c hc
  rcases (show c = 0 ∨ c = 1 ∨ c = 2 ∨ c = 3 ∨ c = 4 ∨ c = 5 ∨ c = 6 ∨ c = 7 ∨ c = 8 ∨ c = 9 ∨ c = 10 ∨ c = 11 ∨ c = 12 ∨ c = 13 ∨ c = 14 ∨ c = 15 ∨ c = 16 by omega) with rfl | rfl | rfl | rfl | rfl | rfl | rfl | rfl | rfl | rfl | rfl | rfl | rfl | rfl | rfl | rfl | rfl <;> assumption
/-- the tuple after a move -/
def zmT (X : az_St) (z : Nat) (u : Nat → Nat) (s k y x : Nat) : z11 := (upd (X 0) s (if u s + 1 < z then 1 else 2), upd (X 2) s (nI (u s + 1)), upd (X 3) 1 (if u s + 1 < z then nI s else -1), upd (upd (X 5) (16 * s + u s) (X 5 k)) k 3, upd (X 6) (16 * s + u s) (nI y), upd (X 7) (16 * s + u s) (X 7 k), upd (X 8) (16 * s + u s) (nI x), upd (X 9) k (X 16 1), zex (X 14) y k (16 * s + u s) 4, if X 5 k = 1 then upd (X 15) y (nI (16 * s + u s)) else X 15)
theorem zmT_e (V : az_St) (w : z11) (z : Nat) (u : Nat → Nat) (s k y x : Nat) : ∀ c, c < 17 → zV11 V (zmT (zV11 V w) z u s k y x) c = zmov (zV11 V w) z u s k y x c := by
  have o := zmo2_o (zV11 V w) z u s k y x
  exact zc17 (o 0 (by decide)).symm (o 1 (by decide)).symm (o 2 (by decide)).symm (o 3 (by decide)).symm (o 4 (by decide)).symm rfl (o 6 (by decide)).symm (o 7 (by decide)).symm (o 8 (by decide)).symm rfl (o 10 (by decide)).symm (o 11 (by decide)).symm (o 12 (by decide)).symm (o 13 (by decide)).symm rfl (zmo2_15 (zV11 V w) z u s k y x).symm (o 16 (by decide)).symm
theorem zcnt_flip {n s : Nat} {p q : Nat → Bool} (hs : s < n) (h1 : p s = true) (h2 : q s = false) (h3 : ∀ i, i < n → i ≠ s → q i = p i) : zcnt n q + 1 = zcnt n p := by
  induction n with
  | zero => omega
  | succ n ih =>
    by_cases c : s = n
    · subst c
      rw [zcnt_f h2, zcnt_t h1, zcnt_congr (fun i hi => h3 i (by omega) (by omega))]
    · have := ih (by omega) (fun i hi hne => h3 i (by omega) hne)
      simp only [zcnt]
      rw [h3 n (by omega) (fun g => c g.symm)]
      omega
/-- an append at the second head takes one of its room -/
theorem zroom2_app (hI : zI n z e t u X) (hh : zhd X n 1 s) : zroom2 n z (zup u s) (upd (X 0) s (if u s + 1 < z then 1 else 2)) (upd (X 3) 1 (if u s + 1 < z then nI s else -1)) + 1 = zroom2 n z u (X 0) (X 3) := by
  obtain ⟨hs10, huz⟩ := zhd_lt hI hh
  have us : zup u s s = u s + 1 := if_pos rfl
  have hz2 := hI.D.z2
  unfold zroom2
  rw [zupd_s]
  rcases hh.2 with ⟨h3, h0⟩ | ⟨h3, -, h0⟩
  · have hf : zfree n (upd (X 0) s (if u s + 1 < z then 1 else 2)) = zfree n (X 0) := by
      unfold zfree
      refine zcnt_congr (fun i _ => ?_)
      by_cases c : i = s
      · subst c
        rw [zupd_s, h0]
        split <;> rfl
      · rw [zupd_n c]
    rw [hf, h3]
    unfold zun
    rw [if_neg (znm (j := s) (by omega)), zc (by omega)]
    by_cases hc : u s + 1 < z
    · rw [if_pos hc, if_neg (znm (by omega)), zc (by omega), us]; omega
    · rw [if_neg hc, if_pos rfl]; omega
  · have hu0 : u s = 0 := by
      rcases (hI.S s hs10).2 with ⟨-, g⟩ | ⟨-, g, -⟩ | ⟨-, g, -⟩
      · exact g
      · rw [h0] at g; exact absurd g (by decide)
      · rw [h0] at g; exact absurd g (by decide)
    have hf : zfree n (upd (X 0) s (if u s + 1 < z then 1 else 2)) + 1 = zfree n (X 0) := by
      unfold zfree
      refine zcnt_flip hh.1 (by simp [h0]) ?_ (fun i _ hne => by rw [zupd_n hne])
      rw [zupd_s]
      split <;> rfl
    rw [h3, if_pos (show u s + 1 < z by omega), ← hf]
    unfold zun
    rw [if_neg (znm (by omega)), if_pos rfl, zc (by omega), us, Nat.add_mul]
    omega
/-- what moves do to blocks -/
def zMv (V X : az_St) (e : Nat) : Prop := ∀ k, k < 160 → (X 5 k = V 5 k ∧ X 9 k = V 9 k) ∨ (X 5 k = 3 ∧ X 9 k = nI e) ∨ V 5 k = 0
def znd (v5 : Nat → Int32) (s : Nat) (b : Nat) : Bool := decide (v5 (16 * s + b) = 1 ∨ v5 (16 * s + b) = 2)
theorem znd_use (v5 : Nat → Int32) (s : Nat) : ∀ z, zcnt z (znd v5 s) = zuse v5 s z := by
  intro z
  induction z with
  | zero => rfl
  | succ z ih =>
    unfold zuse zst at ih ⊢
    simp only [zcnt]
    rw [ih]
    unfold znd
    by_cases h1 : v5 (16 * s + z) = 1
    · have h2 : ¬ v5 (16 * s + z) = 2 := by rw [h1]; decide
      rw [if_pos (by simp [h1]), if_pos (by simp [h1]), if_neg (by simp [h2])]; omega
    · by_cases h2 : v5 (16 * s + z) = 2
      · rw [if_pos (by simp [h2]), if_neg (by simp [h1]), if_pos (by simp [h2])]; omega
      · rw [if_neg (by simp [h1, h2]), if_neg (by simp [h1]), if_neg (by simp [h2])]; omega
theorem mov_both {s0 : Nat} (hR : zR V (M 0)) (hI : zI n z e t u V) (hs0 : s0 < 10) (h2 : V 0 s0 = 2) (hroom : zuse (V 5) s0 z ≤ zroom2 n z u (V 0) (V 3)) :
    ∃ (x : z11) (a' : Nat → Int32) (u' : Nat → Nat), FX5_moveAll V (nI s0) = some (nI (zuse (V 5) s0 z), x.1, x.2.1, x.2.2.1, x.2.2.2.1, x.2.2.2.2.1, x.2.2.2.2.2.1, x.2.2.2.2.2.2.1, x.2.2.2.2.2.2.2.1, x.2.2.2.2.2.2.2.2.1, x.2.2.2.2.2.2.2.2.2, upd (V 16) 5 (V 16 5 + nI (zuse (V 5) s0 z))) ∧ FX7_relocates M (nI s0) = some (nI (zuse (V 5) s0 z), upd a' 7 (a' 7 + nI (zuse (V 5) s0 z))) ∧ zR (zV11 V x) a' ∧ zI n z e t u' (zV11 V x) ∧ (∀ i, 964 ≤ i → a' i = M 0 i) ∧ zMv V (zV11 V x) e := by
  have hn := hI.D.n10
  have hz := hI.D.z12
  have hz2 := hI.D.z2
  have start := for2 (fun m (x : z11 × Int32) y => FX5_moveAll_L10 m V (nI s0) x.1.1 x.1.2.1 x.1.2.2.1 x.1.2.2.2.1 x.1.2.2.2.2.1 x.1.2.2.2.2.2.1 x.1.2.2.2.2.2.2.1 x.1.2.2.2.2.2.2.2.1 x.1.2.2.2.2.2.2.2.2.1 x.1.2.2.2.2.2.2.2.2.2 (V 16) (nI (16 * s0)) x.2 y) (fun m (w : (Nat → Int32) × Int32) y => FX7_relocates_L7 m M (nI s0) w.1 w.2 y)
    (fun j x w => zR (zV11 V x.1) w.1 ∧ (∃ u', zI n z e t u' (zV11 V x.1) ∧ zcnt (z - j) (fun b => znd (V 5) s0 (j + b)) ≤ zroom2 n z u' (x.1.1) (x.1.2.2.1)) ∧ (∀ i, 964 ≤ i → w.1 i = M 0 i) ∧ zMv V (zV11 V x.1) e ∧ x.1.1 s0 = 2 ∧ (∀ b, j ≤ b → b < z → (zV11 V x.1) 5 (16 * s0 + b) = V 5 (16 * s0 + b)) ∧ x.2 = nI (zcnt j (znd (V 5) s0)) ∧ w.2 = nI (zcnt j (znd (V 5) s0))) (16 * s0) z (fun j hj x w hrel => ?_)
    ((V 0, V 2, V 3, V 5, V 6, V 7, V 8, V 9, V 14, V 15), (0 : Int32)) (M 0, (0 : Int32))
    ⟨zR_e hR (zc17 rfl rfl rfl rfl rfl rfl rfl rfl rfl rfl rfl rfl rfl rfl rfl rfl rfl), ⟨u, zI_e hI (zc17 rfl rfl rfl rfl rfl rfl rfl rfl rfl rfl rfl rfl rfl rfl rfl rfl rfl), by
      have : zcnt z (fun b => znd (V 5) s0 (0 + b)) = zuse (V 5) s0 z := by
        rw [← znd_use]
        exact zcnt_congr (fun b _ => by rw [Nat.zero_add])
      rw [Nat.sub_zero, this]
      exact hroom⟩, fun _ _ => rfl, fun k _ => Or.inl ⟨rfl, rfl⟩, h2, fun _ _ _ => rfl, rfl, rfl⟩
  · obtain ⟨x, w, ⟨r1, ⟨u', r2, -⟩, r3, r4, -, -, r7, r8⟩, f, g⟩ := start
    rw [znd_use] at r7 r8
    refine ⟨x.1, w.1, u', ?_, ?_, r1, r2, r3, r4⟩
    · unfold FX5_moveAll
      rw [z16r]
      have := f (az_fuel - z)
      rw [show z + (az_fuel - z) = az_fuel by have : z < az_fuel := zfu (by omega); omega] at this
      refine this.trans ?_
      have hf : az_fuel - z = (az_fuel - z - 1) + 1 := by have : z < az_fuel := zfu (by omega); omega
      try dsimp only
      rw [hf, FX5_moveAll_L10_s, hI.D.e1, zadd, if_pos (by rw [zle (by omega) (by omega)]; exact Nat.le_refl _), r7]
    · unfold FX7_relocates
      rw [z16l]
      have := g (az_fuel - z)
      rw [show z + (az_fuel - z) = az_fuel by have : z < az_fuel := zfu (by omega); omega] at this
      refine this.trans ?_
      have hf : az_fuel - z = (az_fuel - z - 1) + 1 := by have : z < az_fuel := zfu (by omega); omega
      try dsimp only
      rw [hf, FX7_relocates_L7_s, show w.1 (1 : Int32).toNatClampNeg = nI z from r1.a1 r2.D, z16l, zadd, if_pos (by rw [zle (by omega) (by omega)]; exact Nat.le_refl _), r8]
      rfl
  · obtain ⟨r1, ⟨u', r2, r2b⟩, r3, r4, r5, r6, r7, r8⟩ := hrel
    obtain ⟨x, c⟩ := x
    obtain ⟨w, d⟩ := w
    dsimp only at r1 r2 r2b r3 r4 r5 r6 r7 r8
    have hRw : zR (zV11 V x) ((va_up M 0 w) 0) := r1
    have hk : 16 * s0 + j < 160 := by omega
    have k5 : (zV11 V x) 5 (16 * s0 + j) = V 5 (16 * s0 + j) := r6 j (Nat.le_refl j) hj
    have a1 : w (1 : Int32).toNatClampNeg = nI z := r1.a1 r2.D
    have mb : FX7_ofBlock (va_up M 0 w) (nI (16 * s0 + j)) 0 = some (V 5 (16 * s0 + j)) := (m_b0 hRw hk).trans (congrArg some k5)
    have cn : FX0_isNeeded (zV11 V x) (nI (16 * s0 + j)) = some (if V 5 (16 * s0 + j) = 1 ∨ V 5 (16 * s0 + j) = 2 then 1 else 0) := by rw [c_isNeeded hk, k5]
    by_cases hp : V 5 (16 * s0 + j) = 1 ∨ V 5 (16 * s0 + j) = 2
    · have hp' : znd (V 5) s0 j = true := by simp [znd, hp]
      have rem : zcnt (z - j) (fun b => znd (V 5) s0 (j + b)) = zcnt (z - (j + 1)) (fun b => znd (V 5) s0 (j + 1 + b)) + 1 := by
        rw [show z - j = 1 + (z - (j + 1)) by omega, zcnt_add]
        have : zcnt 1 (fun b => znd (V 5) s0 (j + b)) = 1 := by simp [zcnt, hp']
        rw [this, Nat.add_comm]
        congr 1
        exact zcnt_congr (fun b _ => by rw [Nat.add_assoc])
      have hI5 : (zV11 V x) 5 (16 * s0 + j) = 1 ∨ (zV11 V x) 5 (16 * s0 + j) = 2 := by rw [k5]; exact hp
      have h50 : ¬ (zV11 V x) 5 (16 * s0 + j) = 0 := by rcases hI5 with h | h <;> rw [h] <;> decide
      have hv := (r2.val hk h50).2.2
      obtain ⟨-, ⟨y, hy, h6⟩, ⟨q, hq, h8⟩, -, -⟩ := (r2.B (16 * s0 + j) hk).1 hv
      obtain ⟨s, hh⟩ : ∃ s, zhd (zV11 V x) n 1 s := by
        refine zhd_of r2 (by omega) (fun h3 => ?_)
        have h3 : x.2.2.1 1 = -1 := h3
        rw [rem] at r2b
        unfold zroom2 zun at r2b
        rw [if_pos h3, Nat.zero_add] at r2b
        rcases Nat.eq_zero_or_pos (zfree n (x.1)) with h0 | h0
        · rw [h0, Nat.zero_mul] at r2b; omega
        · exact h0
      obtain ⟨hs10, huz⟩ := zhd_lt r2 hh
      have hss : s ≠ s0 := by
        intro c
        subst c
        have h5 : (zV11 V x) 0 s = 2 := r5
        rcases hh.2 with ⟨-, g⟩ | ⟨-, -, g⟩ <;> rw [h5] at g <;> exact absurd g (by decide)
      have cm := c_move r2 hk hy hI5 h6 h8 hh
      obtain ⟨w', mm, m1, m2⟩ := m_moves hRw r2 hk hy hI5 h6 h8 hh
      have hun : (zV11 V x) 5 (16 * s + u' s) = 0 := ((r2.B (16 * s + u' s) (by omega)).2 (by rw [show (16 * s + u' s) / 16 = s by omega, show (16 * s + u' s) % 16 = u' s by omega]; omega)).1
      refine ⟨(zmT (zV11 V x) z u' s (16 * s0 + j) y q, c + 1), (w', d + 1), ⟨zR_e m1 (zmT_e V x z u' s (16 * s0 + j) y q), ⟨zup u' s, zI_e (zI_mov r2 hk hy hq hI5 h6 hh) (zmT_e V x z u' s (16 * s0 + j) y q), ?_⟩, fun i hi => (m2 i hi).trans (r3 i hi), ?_, ?_, ?_, ?_, ?_⟩, fun m => ?_, fun m => ?_⟩
      · have := zroom2_app r2 hh
        have e1 : zroom2 n z u' ((zV11 V x) 0) ((zV11 V x) 3) = zroom2 n z u' x.1 x.2.2.1 := rfl
        rw [rem] at r2b
        show _ ≤ zroom2 n z (zup u' s) (upd ((zV11 V x) 0) s (if u' s + 1 < z then 1 else 2)) (upd ((zV11 V x) 3) 1 (if u' s + 1 < z then nI s else -1))
        omega
      · intro i hi
        show ((upd (upd ((zV11 V x) 5) (16 * s + u' s) ((zV11 V x) 5 (16 * s0 + j))) (16 * s0 + j) 3) i = _ ∧ upd ((zV11 V x) 9) (16 * s0 + j) ((zV11 V x) 16 1) i = _) ∨ ((upd (upd ((zV11 V x) 5) (16 * s + u' s) ((zV11 V x) 5 (16 * s0 + j))) (16 * s0 + j) 3) i = 3 ∧ upd ((zV11 V x) 9) (16 * s0 + j) ((zV11 V x) 16 1) i = nI e) ∨ _
        by_cases c1 : i = 16 * s0 + j
        · subst c1
          rw [zupd_s, zupd_s]
          exact Or.inr (Or.inl ⟨rfl, r2.T.1⟩)
        · rw [zupd_n c1, zupd_n c1]
          by_cases c2 : i = 16 * s + u' s
          · subst c2
            refine Or.inr (Or.inr ?_)
            rcases r4 _ hi with ⟨g1, -⟩ | ⟨g1, -⟩ | g1
            · rw [← g1]; exact hun
            · rw [hun] at g1; exact absurd g1 (by decide)
            · exact g1
          · rw [zupd_n c2]; exact r4 i hi
      · show upd ((zV11 V x) 0) s (if u' s + 1 < z then 1 else 2) s0 = 2
        rw [zupd_n (Ne.symm hss)]; exact r5
      · intro b hb1 hb2
        show upd (upd ((zV11 V x) 5) (16 * s + u' s) ((zV11 V x) 5 (16 * s0 + j))) (16 * s0 + j) 3 (16 * s0 + b) = _
        rw [zupd_n (by omega), zupd_n (by omega)]
        exact r6 b (by omega) hb2
      · dsimp only; rw [r7, zcnt_t hp', zs]
      · dsimp only; rw [r8, zcnt_t hp', zs]
      · dsimp only
        rw [FX5_moveAll_L10_s, hI.D.e1, zadd, if_neg (by rw [zle (by omega) (by omega)]; omega), zs (16 * s0 + j)]
        refine (congrArg (fun q => Option.bind q _) cn).trans ?_
        rw [Option.bind_some, zb1, if_pos hp]
        refine (congrArg (fun q => Option.bind q _) cm).trans ?_
        rw [Option.bind_some]
        rfl
      · dsimp only
        rw [FX7_relocates_L7_s, a1, z16l, zadd, if_neg (by rw [zle (by omega) (by omega)]; omega), mb, Option.bind_some, Option.bind_some, mm, Option.bind_some, zs (16 * s0 + j)]
        rcases hp with h | h
        · rw [if_pos h]
        · rw [if_neg (by rw [h]; decide), if_pos h]
    · have hp' : znd (V 5) s0 j = false := by simp [znd, hp]
      refine ⟨(x, c), (w, d), ⟨r1, ⟨u', r2, ?_⟩, r3, r4, r5, fun b hb1 hb2 => r6 b (by omega) hb2, ?_, ?_⟩, fun m => ?_, fun m => ?_⟩
      · have rem : zcnt (z - j) (fun b => znd (V 5) s0 (j + b)) = zcnt (z - (j + 1)) (fun b => znd (V 5) s0 (j + 1 + b)) := by
          rw [show z - j = 1 + (z - (j + 1)) by omega, zcnt_add]
          have : zcnt 1 (fun b => znd (V 5) s0 (j + b)) = 0 := by simp [zcnt, hp']
          rw [this, Nat.zero_add]
          exact zcnt_congr (fun b _ => by rw [Nat.add_assoc])
        rw [rem] at r2b
        exact r2b
      · dsimp only; rw [r7, zcnt_f hp']
      · dsimp only; rw [r8, zcnt_f hp']
      · dsimp only
        rw [FX5_moveAll_L10_s, hI.D.e1, zadd, if_neg (by rw [zle (by omega) (by omega)]; omega), zs (16 * s0 + j)]
        refine (congrArg (fun q => Option.bind q _) cn).trans ?_
        rw [Option.bind_some, zb1, if_neg hp]
      · dsimp only
        rw [FX7_relocates_L7_s, a1, z16l, zadd, if_neg (by rw [zle (by omega) (by omega)]; omega), mb, Option.bind_some, Option.bind_some, zs (16 * s0 + j), if_neg (fun g => hp (Or.inl g)), if_neg (fun g => hp (Or.inr g))]
end AY
