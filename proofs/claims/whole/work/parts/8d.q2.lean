/-! THE QUESTIONS, on: readers, segments, blocks -/
section Q2
variable {M V : az_St} {n z e t : Nat} {u : Nat → Nat} {x x2 : Int32}
theorem zneg_or (x : Int32) : x < 0 ∨ ∃ k : Nat, k < 2147483648 ∧ x = nI k := by
  by_cases h : x < 0
  · exact Or.inl h
  · exact Or.inr (nI_of h)
theorem zblk160 {k : Nat} (hn : n ≤ 10) (h : k / 16 < n ∧ k % 16 < z) : k < 160 := by omega
/-- a refusal for a reader's holding, on both sides -/
theorem both_held (hR : zR V (M 0)) (hI : zI n z e t u V) (hH : zH (V 10) (V 11) (V 12) (M 0)) :
    (∃ r k, r < 6 ∧ k < 160 ∧ x = nI r ∧ x2 = nI k ∧ (k / 16 < n ∧ k % 16 < z) ∧ zbit (V 10 k) r = true ∧ FX6_checkHeld V x x2 = some 0 ∧ FX7_holdRefusal M x x2 = some 0) ∨ (FX6_checkHeld V x x2 = some 1 ∧ FX7_holdRefusal M x x2 = some 1) ∨ (FX6_checkHeld V x x2 = some 4 ∧ FX7_holdRefusal M x x2 = some 2) := by
  have hn := hI.D.n10
  unfold FX6_checkHeld FX7_holdRefusal
  by_cases hx : 0 ≤ x ∧ x ≤ nI 5
  · rw [c_rdrY hx, m_rdrY hx, Option.bind_some, Option.bind_some, if_pos rfl, if_neg e1n0]
    obtain ⟨r, hr, rfl⟩ := zrdr hx
    rcases zneg_or x2 with hneg | ⟨k, hk, rfl⟩
    · rw [c_checkAddressNeg V hneg, m_isBlockNeg hneg, Option.bind_some, Option.bind_some, if_neg (by decide), if_pos rfl]
      exact Or.inr (Or.inl ⟨rfl, rfl⟩)
    · rw [c_checkAddress hI.D hk, m_isB hR hI hk, Option.bind_some, Option.bind_some, zb1]
      by_cases hb : k / 16 < n ∧ k % 16 < z
      · have hk' := zblk160 hn hb
        rw [if_pos hb, if_pos hb, if_pos rfl, c_isHeldBy hk', Option.bind_some, m_holds hH hr hk', Option.bind_some, zb1, c_checkElement, Option.bind_some]
        by_cases hz : zbit (V 10 k) r = true
        · rw [if_pos hz, if_pos hz, if_pos rfl]
          exact Or.inl ⟨r, k, hr, hk', rfl, rfl, hb, hz, rfl, rfl⟩
        · rw [if_neg hz, if_neg hz, if_neg (by decide)]
          exact Or.inr (Or.inr ⟨rfl, rfl⟩)
      · rw [if_neg hb, if_neg hb, if_neg (by decide)]
        exact Or.inr (Or.inl ⟨rfl, rfl⟩)
  · rw [c_rdrN hx, m_rdrN hx, Option.bind_some, Option.bind_some, if_neg (by decide), if_pos rfl]
    exact Or.inr (Or.inl ⟨rfl, rfl⟩)
theorem q_read (hR : zR V (M 0)) (hI : zI n z e t u V) (hH : zH (V 10) (V 11) (V 12) (M 0)) (hQ : iR e (V 5) (V 9) (V 10) (V 11) (V 12)) : zQ (FX6_read V x x2) (FX7_read M x x2) (M 2) 0 0 ∨ zQ (FX6_read V x x2) (FX7_read M x x2) (M 2) 1 1 ∨ zQ (FX6_read V x x2) (FX7_read M x x2) (M 2) 4 2 := by
  unfold FX6_read FX7_read
  rcases both_held (x := x) (x2 := x2) hR hI hH with ⟨r, k, hr, hk, rfl, rfl, hb, hz, c1, c2⟩ | ⟨c1, c2⟩ | ⟨c1, c2⟩
  · have hR' : zR V ((va_up M 2 (upd (M 2) 1 0)) 0) := hR
    have h0 : ¬ V 5 k = 0 := by
      rcases (hQ.2.2 k hk r hr hz).2 with h | h | ⟨h, -⟩ <;> rw [h] <;> decide
    rw [c1, c2, Option.bind_some, Option.bind_some, if_pos rfl, if_pos (zin hk (by omega)), zc (by omega), zt0, m_b2 hR' hk h0]
    exact Or.inl ⟨_, _, rfl, rfl, fun _ => rfl⟩
  · rw [c1, c2, Option.bind_some, Option.bind_some, if_neg (by decide), zt1]
    exact Or.inr (Or.inl ⟨_, _, rfl, rfl, fun c => absurd c (by decide)⟩)
  · rw [c1, c2, Option.bind_some, Option.bind_some, if_neg (by decide), zt2]
    exact Or.inr (Or.inr ⟨_, _, rfl, rfl, fun c => absurd c (by decide)⟩)
theorem m_in (x : Int32) (m : Nat) : FX7_isIn x.toInt64 (0 : Int64) (nI m).toInt64 = some (if 0 ≤ x ∧ x ≤ nI m then 1 else 0) := m_isIn x 0 (nI m)
theorem q_reader (hR : zR V (M 0)) (hI : zI n z e t u V) (hH : zH (V 10) (V 11) (V 12) (M 0)) (hQ : iR e (V 5) (V 9) (V 10) (V 11) (V 12)) : zQ (FX6_reader V x x2) (FX7_reader M x x2) (M 2) 0 0 ∨ zQ (FX6_reader V x x2) (FX7_reader M x x2) (M 2) 1 1 ∨ zQ (FX6_reader V x x2) (FX7_reader M x x2) (M 2) 2 2 := by
  unfold FX6_reader FX7_reader
  by_cases hx : 0 ≤ x ∧ x ≤ nI 5
  · rw [c_rdrY hx, m_rdrY hx, Option.bind_some, Option.bind_some, if_pos rfl, if_neg e1n0, show FX7_isIn x2.toInt64 (0 : Int64) (4 : Int64) = _ from m_in x2 4, Option.bind_some, zb1]
    obtain ⟨r, hr, rfl⟩ := zrdr hx
    by_cases h4 : 0 ≤ x2 ∧ x2 ≤ nI 4
    · rw [if_pos h4, zt0]
      have hR' : zR V ((va_up M 2 (upd (M 2) 1 0)) 0) := hR
      have hH' : zH (V 10) (V 11) (V 12) ((va_up M 2 (upd (M 2) 1 0)) 0) := hH
      have a3 : M 0 3 = V 16 1 := hR.1.2.2.2.1
      have a4 : M 0 4 = V 16 3 := hR.1.2.2.2.2.1
      have a5 : M 0 5 = V 16 2 := hR.1.2.2.2.2.2.1
      obtain ⟨j, hj, rfl⟩ := (zrng (by omega)).mp h4
      rw [if_pos (zin hr (by omega)), if_pos (zin hr (by omega)), zc (by omega)]
      rcases (show j = 0 ∨ j = 1 ∨ j = 2 ∨ j = 3 ∨ j = 4 by omega) with rfl | rfl | rfl | rfl | rfl
      · rw [if_pos (show nI 0 = (0 : Int32) from rfl), if_pos (show nI 0 = (0 : Int32) from rfl), show FX7_ofReader (va_up M 2 (upd (M 2) 1 0)) (nI r) 0 = some (V 11 r) from (m_rdr _ (w := 0) hr (by omega)).trans (congrArg some (hH' r hr).1)]
        exact Or.inl ⟨_, _, rfl, rfl, fun _ => rfl⟩
      · rw [if_neg (show ¬ nI 1 = (0 : Int32) by decide), if_pos (show nI 1 = (1 : Int32) from rfl), if_neg (show ¬ nI 1 = (0 : Int32) by decide), if_pos (show nI 1 = (1 : Int32) from rfl), m_inside hH' hr, Option.bind_some, zb1]
        rcases hQ.1 r hr with ⟨h1, -⟩ | ⟨h1, h2⟩
        · rw [if_pos h1, show FX7_ofReader (va_up M 2 (upd (M 2) 1 0)) (nI r) 1 = some (V 12 r) from (m_rdr _ (w := 1) hr (by omega)).trans (congrArg some ((hH' r hr).2.1 h1))]
          exact Or.inl ⟨_, _, rfl, rfl, fun _ => rfl⟩
        · rw [if_neg (by rcases h1 with h | h <;> rw [h] <;> decide), h2]
          exact Or.inl ⟨_, _, rfl, rfl, fun _ => rfl⟩
      · rw [if_neg (show ¬ nI 2 = (0 : Int32) by decide), if_neg (show ¬ nI 2 = (1 : Int32) by decide), if_pos (show nI 2 = (2 : Int32) from rfl), if_neg (show ¬ nI 2 = (0 : Int32) by decide), if_neg (show ¬ nI 2 = (1 : Int32) by decide), if_pos (show nI 2 = (2 : Int32) from rfl), c_heldBy, m_heldBy hH' hr]
        exact Or.inl ⟨_, _, rfl, rfl, fun _ => rfl⟩
      · rw [if_neg (show ¬ nI 3 = (0 : Int32) by decide), if_neg (show ¬ nI 3 = (1 : Int32) by decide), if_neg (show ¬ nI 3 = (2 : Int32) by decide), if_pos (show nI 3 = (3 : Int32) from rfl), if_neg (show ¬ nI 3 = (0 : Int32) by decide), if_neg (show ¬ nI 3 = (1 : Int32) by decide), if_neg (show ¬ nI 3 = (2 : Int32) by decide), if_pos (show nI 3 = (3 : Int32) from rfl), c_stallOf hr, m_stallOf hH' hr, show (va_up M 2 (upd (M 2) 1 0)) 0 3 = V 16 1 from a3, show (va_up M 2 (upd (M 2) 1 0)) 0 4 = V 16 3 from a4, show (va_up M 2 (upd (M 2) 1 0)) 0 5 = V 16 2 from a5]
        exact Or.inl ⟨_, _, rfl, rfl, fun _ => rfl⟩
      · rw [if_neg (show ¬ nI 4 = (0 : Int32) by decide), if_neg (show ¬ nI 4 = (1 : Int32) by decide), if_neg (show ¬ nI 4 = (2 : Int32) by decide), if_neg (show ¬ nI 4 = (3 : Int32) by decide), if_pos (show nI 4 = (4 : Int32) from rfl), if_neg (show ¬ nI 4 = (0 : Int32) by decide), if_neg (show ¬ nI 4 = (1 : Int32) by decide), if_neg (show ¬ nI 4 = (2 : Int32) by decide), if_neg (show ¬ nI 4 = (3 : Int32) by decide), c_waitingHeldBy, m_waitingHeldBy hR' hI hH' hr]
        exact Or.inl ⟨_, _, rfl, rfl, fun _ => rfl⟩
    · have ne : ∀ j, j ≤ 4 → ¬ x2 = nI j := fun j hj c => h4 ((zrng (by omega)).mpr ⟨j, hj, c⟩)
      rw [if_neg h4, zt2, if_neg (show ¬ x2 = 0 from ne 0 (by omega)), if_neg (show ¬ x2 = 1 from ne 1 (by omega)), if_neg (show ¬ x2 = 2 from ne 2 (by omega)), if_neg (show ¬ x2 = 3 from ne 3 (by omega)), if_neg (show ¬ x2 = 4 from ne 4 (by omega))]
      exact Or.inr (Or.inr ⟨_, _, rfl, rfl, fun c => absurd c (by decide)⟩)
  · rw [c_rdrN hx, m_rdrN hx, Option.bind_some, Option.bind_some, if_neg (by decide), if_pos rfl, zt1]
    exact Or.inr (Or.inl ⟨_, _, rfl, rfl, fun c => absurd c (by decide)⟩)
theorem q_recWithout (hR : zR V (M 0)) (hI : zI n z e t u V) (hH : zH (V 10) (V 11) (V 12) (M 0)) : zQ (FX6_reclaimableWithout V x) (FX7_reclaimableWithout M x) (M 2) 0 0 ∨ zQ (FX6_reclaimableWithout V x) (FX7_reclaimableWithout M x) (M 2) 1 1 := by
  unfold FX6_reclaimableWithout FX7_reclaimableWithout
  have hR' : zR V ((va_up M 2 (upd (M 2) 1 0)) 0) := hR
  have hH' : zH (V 10) (V 11) (V 12) ((va_up M 2 (upd (M 2) 1 0)) 0) := hH
  by_cases h1 : x = -1
  · rw [if_pos h1, if_pos h1, zt0, show FX6_checkIndex 1 = some 0 from rfl, Option.bind_some, if_pos rfl, c_recIfGone hI, m_recBy hR' hI hH']
    exact Or.inl ⟨_, _, rfl, rfl, fun _ => rfl⟩
  · rw [if_neg h1, if_neg h1, show FX6_isBetween x 0 5 = some (if 0 ≤ x ∧ x ≤ nI 5 then 1 else 0) from c_between x 0 5, Option.bind_some, zb1]
    by_cases hx : 0 ≤ x ∧ x ≤ nI 5
    · rw [if_pos hx, m_rdrY hx, Option.bind_some, if_neg e1n0, zt0, show FX6_checkIndex 1 = some 0 from rfl, Option.bind_some, if_pos rfl, c_recIfGone hI, m_recBy hR' hI hH']
      exact Or.inl ⟨_, _, rfl, rfl, fun _ => rfl⟩
    · rw [if_neg hx, m_rdrN hx, Option.bind_some, if_pos rfl, zt1, show FX6_checkIndex 0 = some 1 from rfl, Option.bind_some, if_neg (by decide)]
      exact Or.inr ⟨_, _, rfl, rfl, fun c => absurd c (by decide)⟩
theorem q_count (hR : zR V (M 0)) : zQ (FX6_count V x) (FX7_count M x) (M 2) 0 0 ∨ zQ (FX6_count V x) (FX7_count M x) (M 2) 2 1 := by
  unfold FX7_count
  rw [show FX7_isIn x.toInt64 (0 : Int64) (9 : Int64) = _ from m_in x 9, Option.bind_some, zb1]
  by_cases h : 0 ≤ x ∧ x ≤ nI 9
  · obtain ⟨j, hj, rfl⟩ := (zrng (by omega)).mp h
    obtain ⟨k0, k1, k2, k3, k4, k5, k6, k7, k8, k9⟩ := hR.N
    rw [if_pos h, zt0, if_pos (zin (by omega) (by omega)), zc (by omega)]
    rcases (show j = 0 ∨ j = 1 ∨ j = 2 ∨ j = 3 ∨ j = 4 ∨ j = 5 ∨ j = 6 ∨ j = 7 ∨ j = 8 ∨ j = 9 by omega) with rfl | rfl | rfl | rfl | rfl | rfl | rfl | rfl | rfl | rfl
    · exact Or.inl ⟨_, _, rfl, rfl, fun _ => k0⟩
    · exact Or.inl ⟨_, _, rfl, rfl, fun _ => k1⟩
    · exact Or.inl ⟨_, _, rfl, rfl, fun _ => k2⟩
    · exact Or.inl ⟨_, _, rfl, rfl, fun _ => k3⟩
    · exact Or.inl ⟨_, _, rfl, rfl, fun _ => k4⟩
    · exact Or.inl ⟨_, _, rfl, rfl, fun _ => k5⟩
    · exact Or.inl ⟨_, _, rfl, rfl, fun _ => k6⟩
    · exact Or.inl ⟨_, _, rfl, rfl, fun _ => k7⟩
    · exact Or.inl ⟨_, _, rfl, rfl, fun _ => k8⟩
    · exact Or.inl ⟨_, _, rfl, rfl, fun _ => k9⟩
  · have ne : ∀ j, j ≤ 9 → ¬ x = nI j := fun j hj c => h ((zrng (by omega)).mpr ⟨j, hj, c⟩)
    rw [if_neg h, zt1]
    unfold FX6_count
    rw [if_neg (show ¬ x = 0 from ne 0 (by omega)), if_neg (show ¬ x = 1 from ne 1 (by omega)), if_neg (show ¬ x = 2 from ne 2 (by omega)), if_neg (show ¬ x = 3 from ne 3 (by omega)), if_neg (show ¬ x = 4 from ne 4 (by omega)), if_neg (show ¬ x = 5 from ne 5 (by omega)), if_neg (show ¬ x = 6 from ne 6 (by omega)), if_neg (show ¬ x = 7 from ne 7 (by omega)), if_neg (show ¬ x = 8 from ne 8 (by omega)), if_neg (show ¬ x = 9 from ne 9 (by omega))]
    exact Or.inr ⟨_, _, rfl, rfl, fun c => absurd c (by decide)⟩
theorem q_blocks (hR : zR V (M 0)) (hI : zI n z e t u V) : zQ (FX6_blocks V x) (FX7_blocks M x) (M 2) 0 0 ∨ zQ (FX6_blocks V x) (FX7_blocks M x) (M 2) 2 1 := by
  unfold FX6_blocks FX7_blocks
  have hR' : zR V ((va_up M 2 (upd (M 2) 1 0)) 0) := hR
  rw [show FX7_isIn x.toInt64 (0 : Int64) (4 : Int64) = _ from m_in x 4, Option.bind_some, zb1, show FX6_isBetween x 0 4 = some (if 0 ≤ x ∧ x ≤ nI 4 then 1 else 0) from c_between x 0 4, Option.bind_some, c_checkArgument, Option.bind_some]
  by_cases h : 0 ≤ x ∧ x ≤ nI 4
  · rw [if_pos h, if_pos h, if_pos rfl, zt0, c_blocks_loop hI, m_allIn hR' hI.D]
    exact Or.inl ⟨_, _, rfl, rfl, fun _ => rfl⟩
  · rw [if_neg h, if_neg h, if_neg (by decide), zt1]
    exact Or.inr ⟨_, _, rfl, rfl, fun c => absurd c (by decide)⟩
theorem c_segY (hI : zI n z e t u V) (h : 0 ≤ x ∧ x ≤ nI (n - 1)) : FX6_checkSegment V x = some 0 := by
  have := hI.D.n3
  rw [c_checkSegment hI.D.e0 (by omega), if_pos h]
theorem c_segN (hI : zI n z e t u V) (h : ¬ (0 ≤ x ∧ x ≤ nI (n - 1))) : FX6_checkSegment V x = some 1 := by
  have := hI.D.n3
  rw [c_checkSegment hI.D.e0 (by omega), if_neg h]
theorem m_segY (hR : zR V (M 0)) (hI : zI n z e t u V) (h : 0 ≤ x ∧ x ≤ nI (n - 1)) : FX7_isSegment M x = some 1 := by
  have := hI.D.n3
  rw [m_isSegment (hR.a0 hI.D) (by omega), if_pos h]
theorem m_segN (hR : zR V (M 0)) (hI : zI n z e t u V) (h : ¬ (0 ≤ x ∧ x ≤ nI (n - 1))) : FX7_isSegment M x = some 0 := by
  have := hI.D.n3
  rw [m_isSegment (hR.a0 hI.D) (by omega), if_neg h]
theorem q_segment (hR : zR V (M 0)) (hI : zI n z e t u V) : zQ (FX6_segment V x x2) (FX7_segment M x x2) (M 2) 0 0 ∨ zQ (FX6_segment V x x2) (FX7_segment M x x2) (M 2) 1 1 ∨ zQ (FX6_segment V x x2) (FX7_segment M x x2) (M 2) 2 2 := by
  unfold FX6_segment FX7_segment
  have hn := hI.D.n10
  have hn3 := hI.D.n3
  by_cases hx : 0 ≤ x ∧ x ≤ nI (n - 1)
  · rw [c_segY hI hx, m_segY hR hI hx, Option.bind_some, Option.bind_some, if_pos rfl, if_neg e1n0, show FX7_isIn x2.toInt64 (0 : Int64) (5 : Int64) = _ from m_in x2 5, Option.bind_some, zb1]
    obtain ⟨s, hs, rfl⟩ := zsgm (by omega) hn hx
    have hs10 : s < 10 := by omega
    by_cases h4 : 0 ≤ x2 ∧ x2 ≤ nI 5
    · have hR' : zR V ((va_up M 2 (upd (M 2) 1 0)) 0) := hR
      rw [if_pos h4, zt0, if_pos (zin hs10 (by omega)), if_pos (zin hs10 (by omega)), zc (by omega)]
      obtain ⟨j, hj, rfl⟩ := (zrng (by omega)).mp h4
      rcases (show j = 0 ∨ j = 1 ∨ j = 2 ∨ j = 3 ∨ j = 4 ∨ j = 5 by omega) with rfl | rfl | rfl | rfl | rfl | rfl
      · rw [if_pos (show nI 0 = (0 : Int32) from rfl), if_pos (show nI 0 = (0 : Int32) from rfl), m_s0 hR' hs10]
        exact Or.inl ⟨_, _, rfl, rfl, fun _ => rfl⟩
      · rw [if_neg (show ¬ nI 1 = (0 : Int32) by decide), if_pos (show nI 1 = (1 : Int32) from rfl), if_neg (show ¬ nI 1 = (0 : Int32) by decide), if_pos (show nI 1 = (1 : Int32) from rfl), c_useOf hI.D hs10, m_useOf hR' hI.D hs10]
        exact Or.inl ⟨_, _, rfl, rfl, fun _ => rfl⟩
      · rw [if_neg (show ¬ nI 2 = (0 : Int32) by decide), if_neg (show ¬ nI 2 = (1 : Int32) by decide), if_pos (show nI 2 = (2 : Int32) from rfl), if_neg (show ¬ nI 2 = (0 : Int32) by decide), if_neg (show ¬ nI 2 = (1 : Int32) by decide), if_pos (show nI 2 = (2 : Int32) from rfl), c_blocksIn hI.D hs10, m_inState hR' hI.D hs10]
        exact Or.inl ⟨_, _, rfl, rfl, fun _ => rfl⟩
      · rw [if_neg (show ¬ nI 3 = (0 : Int32) by decide), if_neg (show ¬ nI 3 = (1 : Int32) by decide), if_neg (show ¬ nI 3 = (2 : Int32) by decide), if_pos (show nI 3 = (3 : Int32) from rfl), if_neg (show ¬ nI 3 = (0 : Int32) by decide), if_neg (show ¬ nI 3 = (1 : Int32) by decide), if_neg (show ¬ nI 3 = (2 : Int32) by decide), if_pos (show nI 3 = (3 : Int32) from rfl), c_blocksIn hI.D hs10, m_inState hR' hI.D hs10]
        exact Or.inl ⟨_, _, rfl, rfl, fun _ => rfl⟩
      · rw [if_neg (show ¬ nI 4 = (0 : Int32) by decide), if_neg (show ¬ nI 4 = (1 : Int32) by decide), if_neg (show ¬ nI 4 = (2 : Int32) by decide), if_neg (show ¬ nI 4 = (3 : Int32) by decide), if_pos (show nI 4 = (4 : Int32) from rfl), if_neg (show ¬ nI 4 = (0 : Int32) by decide), if_neg (show ¬ nI 4 = (1 : Int32) by decide), if_neg (show ¬ nI 4 = (2 : Int32) by decide), if_neg (show ¬ nI 4 = (3 : Int32) by decide), if_pos (show nI 4 = (4 : Int32) from rfl), m_s2 hR' hs10]
        exact Or.inl ⟨_, _, rfl, rfl, fun _ => rfl⟩
      · rw [if_neg (show ¬ nI 5 = (0 : Int32) by decide), if_neg (show ¬ nI 5 = (1 : Int32) by decide), if_neg (show ¬ nI 5 = (2 : Int32) by decide), if_neg (show ¬ nI 5 = (3 : Int32) by decide), if_neg (show ¬ nI 5 = (4 : Int32) by decide), if_pos (show nI 5 = (5 : Int32) from rfl), if_neg (show ¬ nI 5 = (0 : Int32) by decide), if_neg (show ¬ nI 5 = (1 : Int32) by decide), if_neg (show ¬ nI 5 = (2 : Int32) by decide), if_neg (show ¬ nI 5 = (3 : Int32) by decide), if_neg (show ¬ nI 5 = (4 : Int32) by decide), c_ageOf hI hs10, m_ageOf hR' hI hs10]
        exact Or.inl ⟨_, _, rfl, rfl, fun _ => rfl⟩
    · have ne : ∀ j, j ≤ 5 → ¬ x2 = nI j := fun j hj c => h4 ((zrng (by omega)).mpr ⟨j, hj, c⟩)
      rw [if_neg h4, zt2, if_neg (show ¬ x2 = 0 from ne 0 (by omega)), if_neg (show ¬ x2 = 1 from ne 1 (by omega)), if_neg (show ¬ x2 = 2 from ne 2 (by omega)), if_neg (show ¬ x2 = 3 from ne 3 (by omega)), if_neg (show ¬ x2 = 4 from ne 4 (by omega)), if_neg (show ¬ x2 = 5 from ne 5 (by omega))]
      exact Or.inr (Or.inr ⟨_, _, rfl, rfl, fun c => absurd c (by decide)⟩)
  · rw [c_segN hI hx, m_segN hR hI hx, Option.bind_some, Option.bind_some, if_neg (by decide), if_pos rfl, zt1]
    exact Or.inr (Or.inl ⟨_, _, rfl, rfl, fun c => absurd c (by decide)⟩)
theorem q_block (hR : zR V (M 0)) (hI : zI n z e t u V) : zQ (FX6_block V x x2) (FX7_block M x x2) (M 2) 0 0 ∨ zQ (FX6_block V x x2) (FX7_block M x x2) (M 2) 1 1 ∨ zQ (FX6_block V x x2) (FX7_block M x x2) (M 2) 2 2 := by
  unfold FX6_block FX7_block
  have hn := hI.D.n10
  rcases zneg_or x with hneg | ⟨k, hk, rfl⟩
  · rw [c_checkAddressNeg V hneg, m_isBlockNeg hneg, Option.bind_some, Option.bind_some, if_neg (by decide), if_pos rfl, zt1]
    exact Or.inr (Or.inl ⟨_, _, rfl, rfl, fun c => absurd c (by decide)⟩)
  · rw [c_checkAddress hI.D hk, m_isB hR hI hk, Option.bind_some, Option.bind_some, zb1]
    by_cases hb : k / 16 < n ∧ k % 16 < z
    · have hk' := zblk160 hn hb
      rw [if_pos hb, if_pos hb, if_pos rfl, show FX7_isIn x2.toInt64 (0 : Int64) (4 : Int64) = _ from m_in x2 4, Option.bind_some, zb1]
      by_cases h4 : 0 ≤ x2 ∧ x2 ≤ nI 4
      · have hR' : zR V ((va_up M 2 (upd (M 2) 1 0)) 0) := hR
        rw [if_pos h4, zt0, if_pos (zin hk' (by omega)), if_pos (zin hk' (by omega)), if_pos (zin hk' (by omega)), if_pos (zin hk' (by omega)), if_pos (zin hk' (by omega)), zc (by omega), m_b0 hR' hk', Option.bind_some]
        obtain ⟨j, hj, rfl⟩ := (zrng (by omega)).mp h4
        have un : V 5 k = 0 → V 6 k = -1 ∧ V 7 k = -1 ∧ V 8 k = -1 ∧ V 9 k = -1 := fun h0 => by
          by_cases c : k % 16 < u (k / 16)
          · have := ((hI.B k hk').1 c).1
            rw [h0] at this
            rcases this with h | h | h | h <;> exact absurd h (by decide)
          · exact ((hI.B k hk').2 (by omega)).2
        rcases (show j = 0 ∨ j = 1 ∨ j = 2 ∨ j = 3 ∨ j = 4 by omega) with rfl | rfl | rfl | rfl | rfl
        · rw [if_pos (show nI 0 = (0 : Int32) from rfl), if_pos (show nI 0 = (0 : Int32) from rfl)]
          exact Or.inl ⟨_, _, rfl, rfl, fun _ => rfl⟩
        · rw [if_neg (show ¬ nI 1 = (0 : Int32) by decide), if_pos (show nI 1 = (1 : Int32) from rfl), if_neg (show ¬ nI 1 = (0 : Int32) by decide), if_neg (show ¬ nI 1 = (4 : Int32) by decide)]
          by_cases h0 : V 5 k = 0
          · rw [if_pos h0, (un h0).1]
            exact Or.inl ⟨_, _, rfl, rfl, fun _ => rfl⟩
          · rw [if_neg h0, show FX7_ofBlock (va_up M 2 (upd (M 2) 1 0)) (nI k) (nI 1) = some (V 6 k) from m_b1 hR' hk' h0]
            exact Or.inl ⟨_, _, rfl, rfl, fun _ => rfl⟩
        · rw [if_neg (show ¬ nI 2 = (0 : Int32) by decide), if_neg (show ¬ nI 2 = (1 : Int32) by decide), if_pos (show nI 2 = (2 : Int32) from rfl), if_neg (show ¬ nI 2 = (0 : Int32) by decide), if_neg (show ¬ nI 2 = (4 : Int32) by decide)]
          by_cases h0 : V 5 k = 0
          · rw [if_pos h0, (un h0).2.1]
            exact Or.inl ⟨_, _, rfl, rfl, fun _ => rfl⟩
          · rw [if_neg h0, show FX7_ofBlock (va_up M 2 (upd (M 2) 1 0)) (nI k) (nI 2) = some (V 7 k) from m_b2 hR' hk' h0]
            exact Or.inl ⟨_, _, rfl, rfl, fun _ => rfl⟩
        · rw [if_neg (show ¬ nI 3 = (0 : Int32) by decide), if_neg (show ¬ nI 3 = (1 : Int32) by decide), if_neg (show ¬ nI 3 = (2 : Int32) by decide), if_pos (show nI 3 = (3 : Int32) from rfl), if_neg (show ¬ nI 3 = (0 : Int32) by decide), if_neg (show ¬ nI 3 = (4 : Int32) by decide)]
          by_cases h0 : V 5 k = 0
          · rw [if_pos h0, (un h0).2.2.1]
            exact Or.inl ⟨_, _, rfl, rfl, fun _ => rfl⟩
          · rw [if_neg h0, show FX7_ofBlock (va_up M 2 (upd (M 2) 1 0)) (nI k) (nI 3) = some (V 8 k) from m_b3 hR' hk' h0]
            exact Or.inl ⟨_, _, rfl, rfl, fun _ => rfl⟩
        · rw [if_neg (show ¬ nI 4 = (0 : Int32) by decide), if_neg (show ¬ nI 4 = (1 : Int32) by decide), if_neg (show ¬ nI 4 = (2 : Int32) by decide), if_neg (show ¬ nI 4 = (3 : Int32) by decide), if_pos (show nI 4 = (4 : Int32) from rfl), if_neg (show ¬ nI 4 = (0 : Int32) by decide), if_pos (show nI 4 = (4 : Int32) from rfl)]
          by_cases h3 : V 5 k = 3
          · rw [if_pos h3, m_b4 hR' hk' h3]
            exact Or.inl ⟨_, _, rfl, rfl, fun _ => rfl⟩
          · have e9 : V 9 k = -1 := by
              by_cases c : k % 16 < u (k / 16)
              · exact ((hI.B k hk').1 c).2.2.2.2 h3
              · exact ((hI.B k hk').2 (by omega)).2.2.2.2
            rw [if_neg h3, e9]
            exact Or.inl ⟨_, _, rfl, rfl, fun _ => rfl⟩
      · have ne : ∀ j, j ≤ 4 → ¬ x2 = nI j := fun j hj c => h4 ((zrng (by omega)).mpr ⟨j, hj, c⟩)
        rw [if_neg h4, zt2, if_neg (show ¬ x2 = 0 from ne 0 (by omega)), if_neg (show ¬ x2 = 1 from ne 1 (by omega)), if_neg (show ¬ x2 = 2 from ne 2 (by omega)), if_neg (show ¬ x2 = 3 from ne 3 (by omega)), if_neg (show ¬ x2 = 4 from ne 4 (by omega))]
        exact Or.inr (Or.inr ⟨_, _, rfl, rfl, fun c => absurd c (by decide)⟩)
    · rw [if_neg hb, if_neg hb, if_neg (by decide), zt1]
      exact Or.inr (Or.inl ⟨_, _, rfl, rfl, fun c => absurd c (by decide)⟩)
theorem q_advToErase (hR : zR V (M 0)) (hI : zI n z e t u V) : zQ (FX6_advancesToErase V x) (FX7_advancesToErase M x) (M 2) 0 0 ∨ zQ (FX6_advancesToErase V x) (FX7_advancesToErase M x) (M 2) 1 1 ∨ zQ (FX6_advancesToErase V x) (FX7_advancesToErase M x) (M 2) 4 2 := by
  unfold FX6_advancesToErase FX7_advancesToErase
  have hn := hI.D.n10
  have hn3 := hI.D.n3
  have hz := hI.D.z12
  by_cases hx : 0 ≤ x ∧ x ≤ nI (n - 1)
  · rw [c_segY hI hx, m_segY hR hI hx, Option.bind_some, Option.bind_some, if_pos rfl, if_neg e1n0]
    obtain ⟨s, hs, rfl⟩ := zsgm (by omega) hn hx
    have hs10 : s < 10 := by omega
    have hu := zuse_le (V 5) s z
    rw [c_canBeErased hI.D hs10, Option.bind_some, c_checkElement, Option.bind_some, m_s0 hR hs10, Option.bind_some, m_useOf hR hI.D hs10, Option.bind_some, zt0, zt2]
    by_cases h2 : V 0 s = 2
    · rw [if_pos h2]
      by_cases h0 : zuse (V 5) s z = 0
      · have hm := zmw_le hI hs10
        have hR' : zR V ((va_up M 2 (upd (M 2) 1 0)) 0) := hR
        have loop : FX7_advancesToErase_L50 az_fuel M (nI s) (upd (M 2) 1 0) 0 = some (nI (zmw V e s z), upd (M 2) 1 0) := by
          refine for0 (fun m (_ : Unit) y => FX7_advancesToErase_L50 m M (nI s) (upd (M 2) 1 0) y) (fun _ => ()) (zmw V e s z) (fun m j hj => ?_) (fun m => ?_) _ (zfu (by omega))
          · rw [FX7_advancesToErase_L50_s, m_isGone hR' hI hs10 (by omega), Option.bind_some, zb1, if_neg (fun c => by omega), zs j]
          · rw [FX7_advancesToErase_L50_s, m_isGone hR' hI hs10 (by omega), Option.bind_some, zb1, if_pos ⟨h2, h0, Nat.le_refl _⟩]
        rw [if_pos (And.intro h2 h0), if_pos (rfl : (0 : Nat) = 0), h0, if_pos (show nI 0 ≤ (0 : Int32) by decide), c_missing hI hs10, loop]
        exact Or.inl ⟨_, _, rfl, rfl, fun _ => rfl⟩
      · rw [if_neg (show ¬ (V 0 s = 2 ∧ zuse (V 5) s z = 0) from fun c => h0 c.2), if_neg (show ¬ (4 : Nat) = 0 by decide), if_neg (nI_nle (by omega) (by omega))]
        exact Or.inr (Or.inr ⟨_, _, rfl, rfl, fun c => absurd c (by decide)⟩)
    · rw [if_neg h2, if_neg (show ¬ (V 0 s = 2 ∧ zuse (V 5) s z = 0) from fun c => h2 c.1), if_neg (show ¬ (4 : Nat) = 0 by decide)]
      exact Or.inr (Or.inr ⟨_, _, rfl, rfl, fun c => absurd c (by decide)⟩)
  · rw [c_segN hI hx, m_segN hR hI hx, Option.bind_some, Option.bind_some, if_neg (by decide), if_pos rfl, zt1]
    exact Or.inr (Or.inl ⟨_, _, rfl, rfl, fun c => absurd c (by decide)⟩)
theorem q_waiting (hR : zR V (M 0)) (hI : zI n z e t u V) : zQ (FX6_waiting V x) (FX7_waiting M x) (M 2) 0 0 ∨ zQ (FX6_waiting V x) (FX7_waiting M x) (M 2) 2 1 := by
  unfold FX6_waiting FX7_waiting
  rw [show FX7_isIn x.toInt64 (0 : Int64) (2 : Int64) = _ from m_in x 2, Option.bind_some, zb1, show FX6_isBetween x 0 2 = some (if 0 ≤ x ∧ x ≤ nI 2 then 1 else 0) from c_between x 0 2, Option.bind_some, c_checkArgument, Option.bind_some]
  by_cases h : 0 ≤ x ∧ x ≤ nI 2
  · obtain ⟨d, hd, rfl⟩ := (zrng (by omega)).mp h
    rw [if_pos h, if_pos h, if_pos rfl, zt0, m_waiting_loop hR hI _ hd, c_recAfter hI hd, Option.bind_some]
    rcases Nat.eq_zero_or_pos d with rfl | hd0
    · rw [if_pos (show nI 0 = (0 : Int32) from rfl), zwe_wd0]
      exact Or.inl ⟨_, _, rfl, rfl, fun _ => rfl⟩
    · obtain ⟨d, rfl⟩ : ∃ q, d = q + 1 := ⟨d - 1, by omega⟩
      rw [if_neg (nI_ne0 (by omega) (by omega)), show nI (d + 1) - (1 : Int32) = nI d from nI_pred d, c_recAfter hI (by omega), Option.bind_some]
      have := zwe_wd (V := V) (e := e) d 160
      rw [zsub (by omega), ← this, Nat.add_sub_cancel]
      exact Or.inl ⟨_, _, rfl, rfl, fun _ => rfl⟩
  · rw [if_neg h, if_neg h, if_neg (by decide), zt1]
    exact Or.inr ⟨_, _, rfl, rfl, fun c => absurd c (by decide)⟩
theorem q_victim (hR : zR V (M 0)) (hI : zI n z e t u V) : zQ (FX6_victim V x) (FX7_victim M x) (M 2) 0 0 ∨ zQ (FX6_victim V x) (FX7_victim M x) (M 2) 2 1 ∨ zQ (FX6_victim V x) (FX7_victim M x) (M 2) 4 2 := by
  unfold FX6_victim FX7_victim
  have hn := hI.D.n10
  have hR' : zR V ((va_up M 2 (upd (M 2) 1 0)) 0) := hR
  have uu : ∀ c : Int32, upd (upd (M 2) 1 0) 1 c = upd (M 2) 1 c := fun c => by
    funext i
    by_cases h : i = 1
    · subst h
      rw [zupd_s, zupd_s]
    · rw [zupd_n h, zupd_n h, zupd_n h]
  rw [show FX7_isIn x.toInt64 (0 : Int64) (2 : Int64) = _ from m_in x 2, Option.bind_some, zb1, show FX6_isBetween x 0 2 = some (if 0 ≤ x ∧ x ≤ nI 2 then 1 else 0) from c_between x 0 2, Option.bind_some, c_checkArgument, Option.bind_some]
  by_cases h : 0 ≤ x ∧ x ≤ nI 2
  · obtain ⟨d, hd, rfl⟩ := (zrng (by omega)).mp h
    rw [if_pos h, if_pos h, if_pos rfl, zt0, c_choose hI hd, Option.bind_some, m_chosen hR' hI hd, Option.bind_some]
    by_cases hv : zvI (zvi V z u d n) = -1
    · rw [if_pos hv, if_pos hv, zt2, uu, show FX6_checkElement 0 = some 4 from rfl, Option.bind_some, if_neg (by decide)]
      exact Or.inr (Or.inr ⟨_, _, rfl, rfl, fun c => absurd c (by decide)⟩)
    · rw [if_neg hv, if_neg hv, zt0, uu, show FX6_checkElement 1 = some 0 from rfl, Option.bind_some, if_pos rfl]
      exact Or.inl ⟨_, _, rfl, rfl, fun _ => rfl⟩
  · rw [if_neg h, if_neg h, if_neg (by decide), zt1]
    exact Or.inr (Or.inl ⟨_, _, rfl, rfl, fun c => absurd c (by decide)⟩)
end Q2
