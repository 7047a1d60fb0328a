/-! SEGMENTS' NUMBERS -/
def zst (v5 : Nat → Int32) (s z : Nat) (st : Int32) : Nat := zcnt z (fun b => decide (v5 (16 * s + b) = st))
def zuse (v5 : Nat → Int32) (s z : Nat) : Nat := zst v5 s z 1 + zst v5 s z 2
theorem zuse_le (v5 : Nat → Int32) (s z : Nat) : zuse v5 s z ≤ z := by
  unfold zuse zst
  induction z with
  | zero => exact Nat.le_refl 0
  | succ z ih =>
    simp only [zcnt]
    by_cases h1 : v5 (16 * s + z) = 1
    · have h2 : ¬ v5 (16 * s + z) = 2 := by rw [h1]; decide
      simp only [h1, h2, decide_true, decide_false, if_true, if_false, Bool.false_eq_true]
      rw [show decide ((1 : Int32) = 2) = false from by decide]
      simp only [Bool.false_eq_true, if_false]
      omega
    · simp only [h1, decide_false, Bool.false_eq_true, if_false]
      split <;> omega
section SG
variable {M V : az_St} {n z e t : Nat} {u : Nat → Nat} {k s : Nat}
theorem c_blocksIn (hd : iD n z (V 4)) (hs : s < 10) (st : Int32) : FX5_blocksIn V (nI s) st = some (nI (zst (V 5) s z st)) := by
  have hz := hd.z12
  unfold FX5_blocksIn zst
  rw [hd.e1, z16r, zadd, c_inState V st (by omega), Option.bind_some]
theorem c_useOf (hd : iD n z (V 4)) (hs : s < 10) : FX5_useOf V (nI s) = some (nI (zuse (V 5) s z)) := by
  unfold FX5_useOf zuse
  rw [c_blocksIn hd hs, c_blocksIn hd hs, Option.bind_some, Option.bind_some, zadd]
theorem m_inState (hR : zR V (M 0)) (hd : iD n z (V 4)) (hs : s < 10) (st : Int32) : FX7_inState M (nI s) st = some (nI (zst (V 5) s z st)) := by
  have hz := hd.z12
  unfold FX7_inState zst
  rw [z16l]
  refine forR (fun m c y => FX7_inState_L8 m M (nI s) st c y) (fun j => nI (zcnt j (fun b => decide (V 5 (16 * s + b) = st)))) (16 * s) z (fun m j hj => ?_) (fun m => ?_) _ (zfu (by omega))
  · rw [FX7_inState_L8_s, z16l, show M 0 (1 : Int32).toNatClampNeg = nI z from hR.a1 hd, zadd, if_neg (by rw [zle (by omega) (by omega)]; omega), m_b0 hR (by omega), Option.bind_some, zs (16 * s + j), zz]
    by_cases hp : V 5 (16 * s + j) = st
    · rw [if_pos hp, zcnt_t (by simpa using hp), zs]
    · rw [if_neg hp, zcnt_f (by simpa using hp)]
  · rw [FX7_inState_L8_s, z16l, show M 0 (1 : Int32).toNatClampNeg = nI z from hR.a1 hd, zadd, if_pos (by rw [zle (by omega) (by omega)]; exact Nat.le_refl _)]
theorem m_useOf (hR : zR V (M 0)) (hd : iD n z (V 4)) (hs : s < 10) : FX7_useOf M (nI s) = some (nI (zuse (V 5) s z)) := by
  unfold FX7_useOf zuse
  rw [m_inState hR hd hs, m_inState hR hd hs, Option.bind_some, Option.bind_some, zadd]
/-- blocks in a state in the first n segments -/
def zall (v5 : Nat → Int32) (z : Nat) (st : Int32) : Nat → Nat
  | 0 => 0
  | s + 1 => zall v5 z st s + zst v5 s z st
theorem m_allIn (hR : zR V (M 0)) (hd : iD n z (V 4)) (st : Int32) : FX7_allIn M st = some (nI (zall (V 5) z st n)) := by
  have hn := hd.n10
  unfold FX7_allIn
  refine for0 (fun m c y => FX7_allIn_L4 m M st c y) (fun j => nI (zall (V 5) z st j)) n (fun m j hj => ?_) (fun m => ?_) _ (zfu (by omega))
  · rw [FX7_allIn_L4_s, show M 0 (0 : Int32).toNatClampNeg = nI n from hR.a0 hd, if_neg (by rw [zle (by omega) (by omega)]; omega), m_inState hR hd (by omega), Option.bind_some, zs j, zadd]
    rfl
  · rw [FX7_allIn_L4_s, show M 0 (0 : Int32).toNatClampNeg = nI n from hR.a0 hd, if_pos (by rw [zle (by omega) (by omega)]; exact Nat.le_refl _)]
/-! age -/
theorem zm1lt {x : Nat} (h : x < 2147483648) : (-1 : Int32) < nI x := by
  have := nI_pos' (n := x) h
  rw [Int32.lt_iff_toInt_lt]
  rw [Int32.le_iff_toInt_le] at this
  exact Int.lt_of_lt_of_le (by decide : (-1 : Int32).toInt < (0 : Int32).toInt) this
def zm0 : Nat → (Nat → Int32) → Int32
  | 0, _ => 0
  | n + 1, f => if f n ≤ zm0 n f then zm0 n f else f n
theorem zm0_at {f : Nat → Int32} {t : Nat} (ht : t < 2147483648) : ∀ j, (∀ b, b < j → ∃ y, y ≤ t ∧ f b = nI y) → ∃ y, y ≤ t ∧ zm0 j f = nI y ∧ (0 < j → zmx j f = nI y) := by
  intro j
  induction j with
  | zero => intro _; exact ⟨0, by omega, rfl, fun c => absurd c (by omega)⟩
  | succ j ih =>
    intro hf
    obtain ⟨y, hy, h1, h2⟩ := ih (fun b hb => hf b (by omega))
    obtain ⟨x, hx, h3⟩ := hf j (by omega)
    simp only [zm0, zmx]
    rw [h1, h3]
    rcases Nat.eq_zero_or_pos j with rfl | hj
    · have e0 : y = 0 := by
        have : nI y = nI 0 := h1.symm
        rw [zeq (by omega) (by omega)] at this
        exact this
      subst e0
      refine ⟨x, hx, ?_, fun _ => ?_⟩
      · rcases Nat.eq_zero_or_pos x with rfl | hx0
        · rw [if_pos (Int32.le_refl _)]
        · rw [if_neg (by rw [zle (by omega) (by omega)]; omega)]
      · exact if_pos (c := zmx 0 f < nI x) (show (-1 : Int32) < nI x from zm1lt (by omega))
    · rw [h2 hj]
      by_cases hc : x ≤ y
      · exact ⟨y, hy, by rw [if_pos ((zle (by omega) (by omega)).mpr hc)], fun _ => by rw [if_neg (by rw [zlt (by omega) (by omega)]; omega)]⟩
      · exact ⟨x, hx, by rw [if_neg (by rw [zle (by omega) (by omega)]; omega)], fun _ => by rw [if_pos (by rw [zlt (by omega) (by omega)]; omega)]⟩
theorem zmx_pad {f : Nat → Int32} {j d : Nat} (h : ∀ b, b < d → f (j + b) = -1) : zmx (j + d) f = zmx j f := by
  induction d with
  | zero => rfl
  | succ d ih =>
    rw [← Nat.add_assoc]
    simp only [zmx]
    rw [ih (fun b hb => h b (by omega)), h d (by omega)]
    split
    · rename_i hlt
      exfalso
      have low : ∀ m, ¬ zmx m f < -1 := by
        intro m
        induction m with
        | zero => show ¬ (-1 : Int32) < -1; decide
        | succ m ihm =>
          simp only [zmx]
          split
          · rename_i h1
            intro h2
            rw [Int32.lt_iff_toInt_lt] at h1 h2 ihm
            omega
          · exact ihm
      exact low j hlt
    · rfl
/-- the age of a segment -/
def zage (V : az_St) (u : Nat → Nat) (s : Nat) : Int32 := if V 0 s = 0 then 0 else V 16 3 - zm0 (u s) (fun b => V 8 (16 * s + b))
theorem zI.tick (hI : zI n z e t u V) (hs : s < 10) : ∀ b, b < u s → ∃ y, y ≤ t ∧ V 8 (16 * s + b) = nI y := by
  intro b hb
  have hu := hI.S.uz hs
  have hz := hI.D.z12
  have := (hI.B (16 * s + b) (by omega)).1 (by rw [show (16 * s + b) % 16 = b by omega, show (16 * s + b) / 16 = s by omega]; exact hb)
  exact this.2.2.1
theorem zI.tick2 (hI : zI n z e t u V) (hs : s < 10) : ∀ b, b < z - u s → V 8 (16 * s + (u s + b)) = -1 := by
  intro b hb
  have hu := hI.S.uz hs
  have hz := hI.D.z12
  have := (hI.B (16 * s + (u s + b)) (by omega)).2 (by rw [show (16 * s + (u s + b)) % 16 = u s + b by omega, show (16 * s + (u s + b)) / 16 = s by omega]; omega)
  exact this.2.2.2.1
theorem c_ageOf (hI : zI n z e t u V) (hs : s < 10) : FX5_ageOf V (nI s) = some (zage V u s) := by
  have hz := hI.D.z12
  have hu := hI.S.uz hs
  have ht := hI.T.2.2.2
  unfold FX5_ageOf zage
  rw [hI.D.e1, z16r, zadd, c_latestTick V (by omega), Option.bind_some, show z = u s + (z - u s) by omega, zmx_pad (hI.tick2 hs)]
  obtain ⟨y, hy, h1, h2⟩ := zm0_at (by omega) (u s) (hI.tick hs)
  rcases (hI.S s hs).2 with ⟨h0, hu0⟩ | ⟨-, h0, hu0, -⟩ | ⟨-, h0, hu0⟩
  · rw [if_pos h0, hu0]; rfl
  · rw [h2 hu0, if_neg (znm (by omega)), if_neg (by rw [h0]; decide), h1]
  · have hz2 := hI.D.z2
    rw [h2 (by omega), if_neg (znm (by omega)), if_neg (by rw [h0]; decide), h1]
theorem m_ageOf (hR : zR V (M 0)) (hI : zI n z e t u V) (hs : s < 10) : FX7_ageOf M (nI s) = some (zage V u s) := by
  have hz := hI.D.z12
  have hu := hI.S.uz hs
  unfold FX7_ageOf zage
  rw [z16l]
  refine forR (fun m c y => FX7_ageOf_L7 m M (nI s) c y) (fun j => zm0 j (fun b => V 8 (16 * s + b))) (16 * s) (u s) (fun m j hj => ?_) (fun m => ?_) _ (zfu (by omega))
  · have h0 : ¬ V 5 (16 * s + j) = 0 := by
      have := (hI.B (16 * s + j) (by omega)).1 (by rw [show (16 * s + j) % 16 = j by omega, show (16 * s + j) / 16 = s by omega]; exact hj)
      rcases this.1 with h | h | h | h <;> rw [h] <;> decide
    rw [FX7_ageOf_L7_s, m_s1 hR hs, Option.bind_some, (hI.S s hs).1, z16l, zadd, if_neg (by rw [zle (by omega) (by omega)]; omega), m_b3 hR (by omega) h0, Option.bind_some, Option.bind_some, zs (16 * s + j)]
    simp only [zm0]
    split <;> rfl
  · rw [FX7_ageOf_L7_s, m_s1 hR hs, Option.bind_some, (hI.S s hs).1, z16l, zadd, if_pos (by rw [zle (by omega) (by omega)]; exact Nat.le_refl _), m_s0 hR hs, Option.bind_some, m_a4 hR]
    split <;> rfl
/-! the sum of ages -/
def zsum (V : az_St) (s : Nat) : Nat → Int32
  | 0 => 0
  | b + 1 => if V 5 (16 * s + b) = 1 ∨ V 5 (16 * s + b) = 2 then zsum V s b + (V 16 3 - V 8 (16 * s + b)) else zsum V s b
theorem zsum_at (hI : zI n z e t u V) (hs : s < 10) : ∀ b, b ≤ z → ∃ y, y ≤ 1000000 * b ∧ zsum V s b = nI y := by
  intro b
  induction b with
  | zero => intro _; exact ⟨0, by omega, rfl⟩
  | succ b ih =>
    intro hb
    obtain ⟨y, hy, h1⟩ := ih (by omega)
    have hz := hI.D.z12
    simp only [zsum]
    split
    · rename_i h
      have h0 : ¬ V 5 (16 * s + b) = 0 := by rcases h with h | h <;> rw [h] <;> decide
      have hv := (hI.val (k := 16 * s + b) (by omega) h0).2.2
      obtain ⟨x, hx, hx8⟩ := ((hI.B (16 * s + b) (by omega)).1 hv).2.2.1
      have ht := hI.T.2.2.2
      refine ⟨y + (t - x), by omega, ?_⟩
      rw [h1, hx8, hI.T.2.1, zsub hx, zadd]
    · exact ⟨y, by omega, h1⟩
theorem c_sumOfAges (hI : zI n z e t u V) (hs : s < 10) : FX5_sumOfAges V (nI s) = some (zsum V s z) := by
  have hz := hI.D.z12
  unfold FX5_sumOfAges
  rw [z16r]
  refine forR (fun m c y => FX5_sumOfAges_L10 m V (nI s) (nI (16 * s)) c y) (fun j => zsum V s j) (16 * s) z (fun m j hj => ?_) (fun m => ?_) _ (zfu (by omega))
  · rw [FX5_sumOfAges_L10_s, hI.D.e1, zadd, if_neg (by rw [zle (by omega) (by omega)]; omega), c_isNeeded (by omega), Option.bind_some, zb1, if_pos (zin (by omega) (by omega)), zc (by omega), zs (16 * s + j)]
    simp only [zsum]
    split <;> rfl
  · rw [FX5_sumOfAges_L10_s, hI.D.e1, zadd, if_pos (by rw [zle (by omega) (by omega)]; exact Nat.le_refl _)]
/-! gone segments -/
/-- how many advances the blocks of a segment wait for yet -/
def zmw (V : az_St) (e s : Nat) : Nat → Nat
  | 0 => 0
  | b + 1 => max (zmw V e s b) (if V 5 (16 * s + b) = 3 then (V 9 (16 * s + b)).toNatClampNeg + 2 - e else 0)
def zgone (V : az_St) (z e s d : Nat) : Prop := V 0 s = 2 ∧ zuse (V 5) s z = 0 ∧ zmw V e s z ≤ d
theorem c_canBeErased (hd : iD n z (V 4)) (hs : s < 10) : FX5_canBeErased V (nI s) = some (if V 0 s = 2 ∧ zuse (V 5) s z = 0 then 1 else 0) := by
  have hz := hd.z12
  have hu := zuse_le (V 5) s z
  unfold FX5_canBeErased
  rw [if_pos (zin hs (by omega)), zc (by omega), c_useOf hd hs, Option.bind_some]
  by_cases h2 : V 0 s = 2
  · rw [if_pos h2]
    by_cases h0 : zuse (V 5) s z = 0
    · rw [h0, if_pos (by rfl), if_pos ⟨h2, rfl⟩]
    · rw [if_neg (nI_ne0 (by omega) (by omega)), if_neg (fun c => h0 c.2)]
  · rw [if_neg h2, if_neg (fun c => h2 c.1)]
/-- the latest epoch of the waiting blocks, or -1: against the advances -/
theorem zmw_at (hI : zI n z e t u V) (hs : s < 10) : ∀ b, b ≤ z → (zmx b (fun b => V 9 (16 * s + b)) = -1 ∧ zmw V e s b = 0 ∧ ∀ j, j < b → ¬ V 5 (16 * s + j) = 3) ∨ ∃ w, w ≤ e ∧ zmx b (fun b => V 9 (16 * s + b)) = nI w ∧ zmw V e s b = w + 2 - e := by
  intro b
  induction b with
  | zero => intro _; exact Or.inl ⟨rfl, rfl, fun j hj => absurd hj (by omega)⟩
  | succ b ih =>
    intro hb
    have hz := hI.D.z12
    have he := hI.T.2.2.1
    simp only [zmx, zmw]
    by_cases h3 : V 5 (16 * s + b) = 3
    · obtain ⟨w, hw, e9⟩ := hI.wep (k := 16 * s + b) (by omega) h3
      rw [e9, if_pos h3, zc (by omega)]
      rcases ih (by omega) with ⟨h1, h2, -⟩ | ⟨w1, hw1, h1, h2⟩
      · rw [h1, h2, if_pos (zm1lt (by omega))]
        exact Or.inr ⟨w, hw, rfl, by omega⟩
      · rw [h1, h2]
        by_cases hc : w1 < w
        · rw [if_pos ((zlt (by omega) (by omega)).mpr hc)]
          exact Or.inr ⟨w, hw, rfl, by omega⟩
        · rw [if_neg (by rw [zlt (by omega) (by omega)]; exact hc)]
          exact Or.inr ⟨w1, hw1, rfl, by omega⟩
    · have e9 : V 9 (16 * s + b) = -1 := by
        by_cases hu : (16 * s + b) % 16 < u ((16 * s + b) / 16)
        · exact ((hI.B (16 * s + b) (by omega)).1 hu).2.2.2.2 h3
        · exact ((hI.B (16 * s + b) (by omega)).2 (by omega)).2.2.2.2
      rw [e9, if_neg h3, Nat.max_zero]
      rcases ih (by omega) with ⟨h1, h2, h4⟩ | ⟨w1, hw1, h1, h2⟩
      · rw [h1, h2, if_neg (by decide)]
        refine Or.inl ⟨rfl, rfl, fun j hj => ?_⟩
        rcases Nat.lt_succ_iff_lt_or_eq.mp hj with h5 | rfl
        · exact h4 j h5
        · exact h3
      · rw [h1, h2, if_neg (by
          have := zm1lt (x := w1) (by omega)
          rw [Int32.lt_iff_toInt_lt] at this ⊢
          omega)]
        exact Or.inr ⟨w1, hw1, rfl, rfl⟩
theorem c_missing (hI : zI n z e t u V) (hs : s < 10) : FX5_advancesMissingIn V (nI s) = some (nI (zmw V e s z)) := by
  have hz := hI.D.z12
  have he := hI.T.2.2.1
  unfold FX5_advancesMissingIn
  rw [hI.D.e1, z16r, zadd, c_latestWaitingEpoch V (by omega), Option.bind_some, hI.T.1]
  rcases zmw_at hI hs z (Nat.le_refl z) with ⟨h1, h2, -⟩ | ⟨w, hw, h1, h2⟩
  · rw [h1, h2, if_pos rfl]; rfl
  · rw [h1, h2, if_neg (znm (by omega)), show nI w + (2 : Int32) = nI (w + 2) from zadd w 2]
    rcases Nat.lt_or_ge e (w + 2) with h3 | h3
    · rw [zsub (by omega), if_pos (z0lt (by omega) (by omega))]
    · rw [show w + 2 - e = 0 by omega]
      rcases Nat.eq_or_lt_of_le h3 with h4 | h4
      · rw [zsub (by omega), show w + 2 - e = 0 by omega, if_neg (by decide)]; rfl
      · have := pk_sneg (a := w + 2) (b := e) (by omega) h4
        rw [if_neg (by rw [Int32.lt_iff_toInt_lt] at this ⊢; omega)]; rfl
theorem zmw_le (hI : zI n z e t u V) (hs : s < 10) : zmw V e s z ≤ 2 := by
  rcases zmw_at hI hs z (Nat.le_refl z) with ⟨-, h2, -⟩ | ⟨w, hw, -, h2⟩ <;> omega
/-- a full segment nothing of which is needed has waiting and dead blocks alone -/
theorem zgone_st (hI : zI n z e t u V) (hs : s < 10) (h2 : V 0 s = 2) (h0 : zuse (V 5) s z = 0) : ∀ b, b < z → V 5 (16 * s + b) = 3 ∨ V 5 (16 * s + b) = 4 := by
  intro b hb
  have hz := hI.D.z12
  have hu : u s = z := by
    rcases (hI.S s hs).2 with ⟨h, -⟩ | ⟨-, h, -⟩ | ⟨-, -, h⟩
    · rw [h2] at h; exact absurd h (by decide)
    · rw [h2] at h; exact absurd h (by decide)
    · exact h
  have h4 := (hI.B (16 * s + b) (by omega)).1 (by rw [show (16 * s + b) % 16 = b by omega, show (16 * s + b) / 16 = s by omega, hu]; exact hb)
  have z1 : zst (V 5) s z 1 = 0 := by unfold zuse at h0; omega
  have z2 : zst (V 5) s z 2 = 0 := by unfold zuse at h0; omega
  have n1 := zcnt_zero.mp z1 b hb
  have n2 := zcnt_zero.mp z2 b hb
  rcases h4.1 with h | h | h | h
  · rw [h] at n1; simp at n1
  · rw [h] at n2; simp at n2
  · exact Or.inl h
  · exact Or.inr h
theorem m_isGone0 (hR : zR V (M 0)) (hd : iD n z (V 4)) (hs : s < 10) (d : Int32) : FX7_isGone_L30 az_fuel M (nI s) d 0 (nI (16 * s)) = some 0 := by
  have hz := hd.z2
  have hz2 := hd.z12
  show FX7_isGone_L30 (9999 + 1) M (nI s) d 0 (nI (16 * s)) = some 0
  rw [FX7_isGone_L30_s, z16l, show M 0 (1 : Int32).toNatClampNeg = nI z from hR.a1 hd, zadd, if_neg (by rw [zle (by omega) (by omega)]; omega), if_pos rfl]
  rfl
theorem m_isGone_loop0 (hR : zR V (M 0)) (hd : iD n z (V 4)) (hs : s < 10) (d : Int32) (j m : Nat) (hj : j ≤ z) : FX7_isGone_L30 (m + 1) M (nI s) d 0 (nI (16 * s + j)) = some 0 := by
  have hz2 := hd.z12
  rw [FX7_isGone_L30_s]
  split
  · rfl
  · rw [if_pos rfl]; rfl
theorem m_isGone (hR : zR V (M 0)) (hI : zI n z e t u V) (hs : s < 10) {d : Nat} (hdd : d < 2147483648) : FX7_isGone M (nI s) (nI d) = some (if V 0 s = 2 ∧ zuse (V 5) s z = 0 ∧ zmw V e s z ≤ d then 1 else 0) := by
  have hz := hI.D.z12
  have he := hI.T.2.2.1
  have huu := zuse_le (V 5) s z
  unfold FX7_isGone
  rw [m_s0 hR hs, Option.bind_some, m_useOf hR hI.D hs, Option.bind_some, z16l, m_isGone0 hR hI.D hs]
  by_cases h2 : V 0 s = 2
  · rw [if_pos h2]
    by_cases h0 : zuse (V 5) s z = 0
    · rw [h0, if_pos (by rfl)]
      have hst := zgone_st hI hs h2 h0
      have hm : ∀ m j, j ≤ z → zmw V e s j ≤ d → z - j < m → FX7_isGone_L30 m M (nI s) (nI d) 1 (nI (16 * s + j)) = some (if zmw V e s z ≤ d then 1 else 0) := by
        intro m
        induction m with
        | zero => intro j _ _ h; omega
        | succ m ih =>
          intro j hj hle hf
          rw [FX7_isGone_L30_s, z16l, m_a1 hR hI, zadd]
          rcases Nat.eq_or_lt_of_le hj with rfl | hlt
          · rw [if_pos (by rw [zle (by omega) (by omega)]; exact Nat.le_refl _), if_pos (by rfl), if_pos hle]
          · rw [if_neg (by rw [zle (by omega) (by omega)]; omega), if_neg (by decide), m_b0 hR (by omega), Option.bind_some, zs (16 * s + j)]
            rcases hst j hlt with h3 | h4
            · obtain ⟨w, hw, e9⟩ := hI.wep (k := 16 * s + j) (by omega) h3
              rw [h3, if_neg (by decide), m_advFor hR hI (by omega) h3, Option.bind_some, e9, zc (by omega)]
              by_cases hc : w + 2 - e ≤ d
              · rw [if_neg (by rw [zlt (by omega) (by omega)]; omega)]
                exact ih (j + 1) (by omega) (by simp only [zmw]; rw [if_pos h3, e9, zc (by omega)]; omega) (by omega)
              · rw [if_pos (by rw [zlt (by omega) (by omega)]; omega)]
                have hbig : ∀ i, j + 1 ≤ i → i ≤ z → ¬ zmw V e s i ≤ d := by
                  intro i
                  induction i with
                  | zero => intro h; omega
                  | succ i ihi =>
                    intro h1 h5
                    simp only [zmw]
                    rcases Nat.eq_or_lt_of_le h1 with h6 | h6
                    · have : i = j := by omega
                      subst this
                      rw [if_pos h3, e9, zc (by omega)]; omega
                    · have := ihi (by omega) (by omega)
                      omega
                rw [if_neg (hbig z (by omega) (Nat.le_refl z))]
                obtain ⟨m, rfl⟩ : ∃ q, m = q + 1 := ⟨m - 1, by omega⟩
                exact m_isGone_loop0 hR hI.D hs _ (j + 1) m (by omega)
            · rw [h4, if_pos rfl]
              exact ih (j + 1) (by omega) (by simp only [zmw]; rw [if_neg (by rw [h4]; decide)]; omega) (by omega)
      have := hm az_fuel 0 (by omega) (by simp [zmw]) (zfu (by omega))
      rw [show 16 * s + 0 = 16 * s from rfl] at this
      rw [this]
      by_cases hc : zmw V e s z ≤ d
      · rw [if_pos hc, if_pos ⟨h2, rfl, hc⟩]
      · rw [if_neg hc, if_neg (fun c => hc c.2.2)]
    · rw [if_neg (nI_ne0 (by omega) (by omega)), if_neg (fun c => h0 c.2.1)]
  · rw [if_neg h2, if_neg (fun c => h2 c.1)]
end SG
