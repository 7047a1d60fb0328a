/-! THE CHANGES, on: readers, time, reclaiming -/
section XN
variable {M V T : az_St} {a : Nat → Int32} {n z e t N : Nat} {u : Nat → Nat} {S : Nat → az_St} {hs : Nat → Int32} {x x2 : Int32}
/-- the core stays where the row below 964 stays -/
theorem zR_rd {V' : az_St} {b : Nat → Int32} (hR : zR V a) (hb : ∀ i, i < 964 → b i = a i) (h : V' 0 = V 0 ∧ V' 1 = V 1 ∧ V' 2 = V 2 ∧ V' 3 = V 3 ∧ V' 4 = V 4 ∧ V' 5 = V 5 ∧ V' 6 = V 6 ∧ V' 7 = V 7 ∧ V' 8 = V 8 ∧ V' 9 = V 9 ∧ V' 13 = V 13 ∧ V' 14 = V 14 ∧ V' 15 = V 15 ∧ V' 16 = V 16) : zR V' b := by
  obtain ⟨h0, h1, h2, h3, h4, h5, h6, h7, h8, h9, h13, h14, h15, h16⟩ := h
  have := zR_c hR hb
  unfold zR at this ⊢
  rw [h0, h1, h2, h3, h4, h5, h6, h7, h8, h9, h13, h14, h15, h16]
  exact this
theorem zI_rd {V' : az_St} (hI : zI n z e t u V) (h : V' 0 = V 0 ∧ V' 1 = V 1 ∧ V' 2 = V 2 ∧ V' 3 = V 3 ∧ V' 4 = V 4 ∧ V' 5 = V 5 ∧ V' 6 = V 6 ∧ V' 7 = V 7 ∧ V' 8 = V 8 ∧ V' 9 = V 9 ∧ V' 13 = V 13 ∧ V' 14 = V 14 ∧ V' 15 = V 15 ∧ V' 16 = V 16) : zI n z e t u V' := by
  obtain ⟨h0, h1, h2, h3, h4, h5, h6, h7, h8, h9, h13, h14, h15, h16⟩ := h
  unfold zI
  rw [h0, h2, h3, h4, h5, h6, h7, h8, h9, h13, h14, h15, h16]
  exact hI
theorem zlet_b {r i : Nat} {st : Int32} (h : i < 964) : zlet a r st i = a i := zlet_o (by omega)
/-- a volume when a reader has gone in or out -/
theorem zGood_rd (hR : zR V a) (hI : zI n z e t u V) (hH : zH (V 10) (V 11) (V 12) a) (hQ : iR e (V 5) (V 9) (V 10) (V 11) (V 12)) (he : e ≤ N) (hNN : iN N (V 16)) {r : Nat} (hr : r < 6) {v10' : Nat → Int32} (hc : zcl (V 10) v10' r) {st y : Int32} (hy : (st = 1 ∧ y = nI e) ∨ ((st = 0 ∨ st = 2) ∧ y = -1)) : zGood (N + 1) (va_up (va_up (va_up V 10 v10') 11 (upd (V 11) r st)) 12 (upd (V 12) r y)) (zlet a r st) := by
  have h3 : a 3 = nI e := (hR.1.2.2.2.1).trans hI.T.1
  obtain ⟨g1, g2⟩ := rdr_both hH hQ h3 hr hc hy
  exact ⟨n, z, e, t, u, zR_rd hR (fun i hi => zlet_b hi) ⟨rfl, rfl, rfl, rfl, rfl, rfl, rfl, rfl, rfl, rfl, rfl, rfl, rfl, rfl⟩, zI_rd hI ⟨rfl, rfl, rfl, rfl, rfl, rfl, rfl, rfl, rfl, rfl, rfl, rfl, rfl, rfl⟩, g1, g2, by omega, iN_up hNN (by omega)⟩
theorem x_enter (hB : zBR N V S hs M) :
    (∃ k c, ((k = 1 ∧ c = 1) ∨ (k = 3 ∧ c = 2)) ∧ FX6_enter V T S hs x = some (k, 0, S, V 11, V 12, hs) ∧ FX7_enter M x = some (0, M 0, M 1, upd (M 2) 1 c)) ∨
    (∃ r S' hs' k' q' a' v11 v12, FX6_enter V T S hs x = some (0, r, S', v11, v12, hs') ∧ FX7_enter M x = some (r, a', k', q') ∧ q' 1 = 0 ∧ zGood (N + 1) (va_up (va_up V 11 v11) 12 v12) a' ∧ zHist (N + 1) S' hs' k' q') := by
  obtain ⟨⟨n, z, e, t, u, hR, hI, hH, hQ, he, hNN⟩, -⟩ := id hB
  unfold FX6_enter FX7_enter
  by_cases hx : 0 ≤ x ∧ x ≤ nI 5
  · obtain ⟨r, hr, rfl⟩ := zrdr hx
    rw [c_rdrY hx, m_rdrY hx, Option.bind_some, Option.bind_some, if_pos rfl, if_neg e1n0, c_isInside hr, Option.bind_some, zb1, m_inside hH hr, Option.bind_some, zb1, zt0, zt2]
    by_cases h : V 11 r = 1
    · rw [if_pos h, if_pos h, show FX6_checkState 0 = some 3 from rfl, Option.bind_some, if_neg (by decide)]
      exact Or.inl ⟨3, 2, Or.inr ⟨rfl, rfl⟩, rfl, rfl⟩
    · obtain ⟨S', hs', k', q', e1, e2, e3, e4⟩ := sv hB
      have a3 : M 0 3 = nI e := (hR.1.2.2.2.1).trans hI.T.1
      have v3 : zlet (M 0) r 1 (3 : Int32).toNatClampNeg = V 16 1 := (zlet_b (show 3 < 964 by omega)).trans (a3.trans hI.T.1.symm)
      rw [if_neg h, if_neg h, show FX6_checkState 1 = some 0 from rfl, Option.bind_some, if_pos rfl, e1, Option.bind_some, e2, Option.bind_some, m_lets (M := va_up (va_up M 1 k') 2 q') hH hr, Option.bind_some]
      unfold FX2_letIn
      rw [if_pos (zin hr (by omega)), zc (by omega), Option.bind_some]
      dsimp only
      rw [show (va_up (va_up M 1 k') 2 q') 0 = M 0 from rfl, v3]
      refine Or.inr ⟨_, S', hs', k', q', _, _, _, rfl, rfl, e4, ?_, e3⟩
      have g := zGood_rd (V := V) hR hI hH hQ he hNN hr (zcl_out hQ hr h) (Or.inl ⟨rfl, hI.T.1⟩ : ((1 : Int32) = 1 ∧ V 16 1 = nI e) ∨ _)
      exact zGood_e g (zEq_c (zc17 rfl rfl rfl rfl rfl rfl rfl rfl rfl rfl rfl rfl rfl rfl rfl rfl rfl)) (fun _ _ => rfl)
  · rw [c_rdrN hx, m_rdrN hx, Option.bind_some, Option.bind_some, if_neg (by decide), if_pos rfl, zt1]
    exact Or.inl ⟨1, 1, Or.inl ⟨rfl, rfl⟩, rfl, rfl⟩
theorem x_leave (hB : zBR N V S hs M) :
    (∃ k c, ((k = 1 ∧ c = 1) ∨ (k = 3 ∧ c = 2)) ∧ FX6_leave V T S hs x = some (k, 0, S, V 10, V 11, V 12, hs) ∧ FX7_leave M x = some (0, M 0, M 1, upd (M 2) 1 c)) ∨
    (∃ r S' hs' k' q' a' v10 v11 v12, FX6_leave V T S hs x = some (0, r, S', v10, v11, v12, hs') ∧ FX7_leave M x = some (r, a', k', q') ∧ q' 1 = 0 ∧ zGood (N + 1) (va_up (va_up (va_up V 10 v10) 11 v11) 12 v12) a' ∧ zHist (N + 1) S' hs' k' q') := by
  obtain ⟨⟨n, z, e, t, u, hR, hI, hH, hQ, he, hNN⟩, -⟩ := id hB
  unfold FX6_leave FX7_leave
  by_cases hx : 0 ≤ x ∧ x ≤ nI 5
  · obtain ⟨r, hr, rfl⟩ := zrdr hx
    rw [c_rdrY hx, m_rdrY hx, Option.bind_some, Option.bind_some, if_pos rfl, if_neg e1n0, if_pos (zin hr (by omega)), zc (by omega), show FX7_ofReader M (nI r) 0 = some (V 11 r) from (m_rdr M (w := 0) hr (by omega)).trans (congrArg some (hH r hr).1), Option.bind_some, zt0, zt2]
    by_cases h : V 11 r = 0
    · rw [if_pos h, if_pos h, show FX6_checkState 0 = some 3 from rfl, Option.bind_some, if_neg (by decide)]
      exact Or.inl ⟨3, 2, Or.inr ⟨rfl, rfl⟩, rfl, rfl⟩
    · obtain ⟨S', hs', k', q', e1, e2, e3, e4⟩ := sv hB
      rw [if_neg h, if_neg h, show FX6_checkState 1 = some 0 from rfl, Option.bind_some, if_pos rfl, e1, Option.bind_some, e2, Option.bind_some, m_lets (M := va_up (va_up M 1 k') 2 q') hH hr, Option.bind_some]
      unfold FX2_sendOut
      rw [if_pos (zin hr (by omega)), zc (by omega), Option.bind_some, c_releaseAll, Option.bind_some]
      exact Or.inr ⟨_, S', hs', k', q', _, _, _, _, rfl, rfl, e4, zGood_rd (V := V) hR hI hH hQ he hNN hr (zcl_rel hQ hr) (Or.inr ⟨Or.inl rfl, rfl⟩), e3⟩
  · rw [c_rdrN hx, m_rdrN hx, Option.bind_some, Option.bind_some, if_neg (by decide), if_pos rfl, zt1]
    exact Or.inl ⟨1, 1, Or.inl ⟨rfl, rfl⟩, rfl, rfl⟩
theorem x_announce (hB : zBR N V S hs M) :
    (∃ k c, ((k = 1 ∧ c = 1) ∨ (k = 3 ∧ c = 2)) ∧ FX6_announce V T S hs x = some (k, 0, S, V 10, V 11, V 12, hs) ∧ FX7_announce M x = some (0, M 0, M 1, upd (M 2) 1 c)) ∨
    (∃ r S' hs' k' q' a' v10 v11 v12, FX6_announce V T S hs x = some (0, r, S', v10, v11, v12, hs') ∧ FX7_announce M x = some (r, a', k', q') ∧ q' 1 = 0 ∧ zGood (N + 1) (va_up (va_up (va_up V 10 v10) 11 v11) 12 v12) a' ∧ zHist (N + 1) S' hs' k' q') := by
  obtain ⟨⟨n, z, e, t, u, hR, hI, hH, hQ, he, hNN⟩, -⟩ := id hB
  unfold FX6_announce FX7_announce
  by_cases hx : 0 ≤ x ∧ x ≤ nI 5
  · obtain ⟨r, hr, rfl⟩ := zrdr hx
    rw [c_rdrY hx, m_rdrY hx, Option.bind_some, Option.bind_some, if_pos rfl, if_neg e1n0, c_isInside hr, Option.bind_some, c_checkState, Option.bind_some, m_inside hH hr, Option.bind_some, zb1, zt0, zt2]
    by_cases h : V 11 r = 1
    · obtain ⟨S', hs', k', q', e1, e2, e3, e4⟩ := sv hB
      rw [if_pos h, if_pos h, if_pos (rfl : (0 : Nat) = 0), e1, Option.bind_some, e2, Option.bind_some, m_lets (M := va_up (va_up M 1 k') 2 q') hH hr, Option.bind_some]
      unfold FX2_letIn
      rw [if_pos (zin hr (by omega)), zc (by omega), Option.bind_some, c_releaseAll, Option.bind_some]
      exact Or.inr ⟨_, S', hs', k', q', _, _, _, _, rfl, rfl, e4, zGood_rd (V := V) hR hI hH hQ he hNN hr (zcl_rel hQ hr) (Or.inl ⟨rfl, hI.T.1⟩), e3⟩
    · rw [if_neg h, if_neg h, if_neg (show ¬ (3 : Nat) = 0 by decide)]
      exact Or.inl ⟨3, 2, Or.inr ⟨rfl, rfl⟩, rfl, rfl⟩
  · rw [c_rdrN hx, m_rdrN hx, Option.bind_some, Option.bind_some, if_neg (by decide), if_pos rfl, zt1]
    exact Or.inl ⟨1, 1, Or.inl ⟨rfl, rfl⟩, rfl, rfl⟩
theorem x_expel (hB : zBR N V S hs M) :
    (∃ k c, ((k = 1 ∧ c = 1) ∨ (k = 3 ∧ c = 2)) ∧ FX6_expel V T S hs x = some (k, 0, S, V 10, V 11, V 12, hs) ∧ FX7_expel M x = some (0, M 0, M 1, upd (M 2) 1 c)) ∨
    (∃ r S' hs' k' q' a' v10 v11 v12, FX6_expel V T S hs x = some (0, r, S', v10, v11, v12, hs') ∧ FX7_expel M x = some (r, a', k', q') ∧ q' 1 = 0 ∧ zGood (N + 1) (va_up (va_up (va_up V 10 v10) 11 v11) 12 v12) a' ∧ zHist (N + 1) S' hs' k' q') := by
  obtain ⟨⟨n, z, e, t, u, hR, hI, hH, hQ, he, hNN⟩, -⟩ := id hB
  unfold FX6_expel FX7_expel
  by_cases hx : 0 ≤ x ∧ x ≤ nI 5
  · obtain ⟨r, hr, rfl⟩ := zrdr hx
    have a2 : M 0 (2 : Int32).toNatClampNeg = V 16 0 := hR.1.2.2.1
    have a3 : M 0 3 = V 16 1 := hR.1.2.2.2.1
    have a4 : M 0 4 = V 16 3 := hR.1.2.2.2.2.1
    have a5 : M 0 5 = V 16 2 := hR.1.2.2.2.2.2.1
    rw [c_rdrY hx, m_rdrY hx, Option.bind_some, Option.bind_some, if_pos rfl, if_neg e1n0, c_isInside hr, Option.bind_some, c_checkState, Option.bind_some, m_inside hH hr, Option.bind_some, zb1, c_stallOf hr, Option.bind_some, m_stallOf hH hr, Option.bind_some, a2, a3, a4, a5, zt0, zt2]
    by_cases h : V 11 r = 1
    · rw [if_pos h, if_pos h, if_pos (rfl : (0 : Nat) = 0)]
      obtain ⟨sl, esl⟩ : ∃ sl, sl = (if zstl (V 11) (V 12) (V 16 1) r = true then V 16 3 - V 16 2 else 0) := ⟨_, rfl⟩
      rw [← esl]
      by_cases hp : sl < V 16 0
      · rw [if_pos hp, if_neg (fun c => znle.mp c hp), show FX6_checkState 0 = some 3 from rfl, Option.bind_some, if_neg (by decide)]
        exact Or.inl ⟨3, 2, Or.inr ⟨rfl, rfl⟩, rfl, rfl⟩
      · obtain ⟨S', hs', k', q', e1, e2, e3, e4⟩ := sv hB
        rw [if_neg hp, if_pos (znle.mpr hp), show FX6_checkState 1 = some 0 from rfl, Option.bind_some, if_pos rfl, e1, Option.bind_some, e2, Option.bind_some, m_lets (M := va_up (va_up M 1 k') 2 q') hH hr, Option.bind_some]
        unfold FX2_sendOut
        rw [if_pos (zin hr (by omega)), zc (by omega), Option.bind_some, c_releaseAll, Option.bind_some]
        exact Or.inr ⟨_, S', hs', k', q', _, _, _, _, rfl, rfl, e4, zGood_rd (V := V) hR hI hH hQ he hNN hr (zcl_rel hQ hr) (Or.inr ⟨Or.inr rfl, rfl⟩), e3⟩
    · rw [if_neg h, if_neg h, if_neg (show ¬ (3 : Nat) = 0 by decide)]
      exact Or.inl ⟨3, 2, Or.inr ⟨rfl, rfl⟩, rfl, rfl⟩
  · rw [c_rdrN hx, m_rdrN hx, Option.bind_some, Option.bind_some, if_neg (by decide), if_pos rfl, zt1]
    exact Or.inl ⟨1, 1, Or.inl ⟨rfl, rfl⟩, rfl, rfl⟩
theorem x_hold (hB : zBR N V S hs M) :
    (∃ k c, ((k = 1 ∧ c = 1) ∨ (k = 3 ∧ c = 2) ∨ (k = 4 ∧ c = 3)) ∧ FX6_hold V T S hs x x2 = some (k, 0, S, V 10, hs) ∧ FX7_hold M x x2 = some (0, M 0, M 1, upd (M 2) 1 c)) ∨
    (∃ r S' hs' k' q' a' v10, FX6_hold V T S hs x x2 = some (0, r, S', v10, hs') ∧ FX7_hold M x x2 = some (r, a', k', q') ∧ q' 1 = 0 ∧ zGood (N + 1) (va_up V 10 v10) a' ∧ zHist (N + 1) S' hs' k' q') := by
  obtain ⟨⟨n, z, e, t, u, hR, hI, hH, hQ, he, hNN⟩, -⟩ := id hB
  unfold FX6_hold FX7_hold
  by_cases hx : 0 ≤ x ∧ x ≤ nI 5
  · obtain ⟨r, hr, rfl⟩ := zrdr hx
    rw [c_rdrY hx, m_rdrY hx, Option.bind_some, Option.bind_some, if_pos rfl, if_neg e1n0]
    by_cases hy : 0 ≤ x2 ∧ x2 ≤ nI 23
    · obtain ⟨y, hy24, rfl⟩ := zkey hy
      rw [c_keyY hy, m_keyY hy, Option.bind_some, Option.bind_some, if_pos rfl, if_neg e1n0, c_isInside hr, Option.bind_some, c_checkState, Option.bind_some, m_inside hH hr, Option.bind_some, zb1, if_pos (zin hy24 (by omega)), zc (by omega), zp840, if_pos (zin (by omega) (by omega)), zc (by omega), hR.L y hy24, zt0, zt2, zt3]
      by_cases h : V 11 r = 1
      · rw [if_pos h, if_pos h, if_pos (rfl : (0 : Nat) = 0)]
        rcases hI.L y hy24 with hl | ⟨p, hp, hl, h5, h6⟩
        · rw [hl, if_pos rfl, if_pos rfl, show FX6_checkElement 0 = some 4 from rfl, Option.bind_some, if_neg (by decide)]
          exact Or.inl ⟨4, 3, Or.inr (Or.inr ⟨rfl, rfl⟩), rfl, rfl⟩
        · obtain ⟨S', hs', k', q', e1, e2, e3, e4⟩ := sv hB
          obtain ⟨m, hm, em, g1, g2⟩ := hold_both hH hQ hr hp h h5
          rw [hl, if_neg (znm (by omega)), if_neg (znm (by omega)), show FX6_checkElement 1 = some 0 from rfl, Option.bind_some, if_pos rfl, e1, Option.bind_some, c_addHolder hp, Option.bind_some, e2, Option.bind_some, zdiv16 (by omega), zrem16 (by omega), zp2, m_rdr (va_up (va_up M 1 k') 2 q') hr (by omega), Option.bind_some, show (va_up (va_up M 1 k') 2 q') 0 (964 + 12 * r + (2 + p / 16)) = nI m from em, m_setRdr (va_up (va_up M 1 k') 2 q') hr (by omega), Option.bind_some]
          refine Or.inr ⟨_, S', hs', k', q', _, _, rfl, rfl, e4, ⟨n, z, e, t, u, zR_rd hR (fun i hi => zupd_n (by omega)) ⟨rfl, rfl, rfl, rfl, rfl, rfl, rfl, rfl, rfl, rfl, rfl, rfl, rfl, rfl⟩, zI_rd hI ⟨rfl, rfl, rfl, rfl, rfl, rfl, rfl, rfl, rfl, rfl, rfl, rfl, rfl, rfl⟩, g1, g2, by omega, iN_up hNN (by omega)⟩, e3⟩
      · rw [if_neg h, if_neg h, if_neg (show ¬ (3 : Nat) = 0 by decide)]
        exact Or.inl ⟨3, 2, Or.inr (Or.inl ⟨rfl, rfl⟩), rfl, rfl⟩
    · rw [c_keyN hy, m_keyN hy, Option.bind_some, Option.bind_some, if_neg (by decide), if_pos rfl, zt1]
      exact Or.inl ⟨1, 1, Or.inl ⟨rfl, rfl⟩, rfl, rfl⟩
  · rw [c_rdrN hx, m_rdrN hx, Option.bind_some, Option.bind_some, if_neg (by decide), if_pos rfl, zt1]
    exact Or.inl ⟨1, 1, Or.inl ⟨rfl, rfl⟩, rfl, rfl⟩
theorem x_release (hB : zBR N V S hs M) :
    (∃ k c, ((k = 1 ∧ c = 1) ∨ (k = 4 ∧ c = 2)) ∧ FX6_release V T S hs x x2 = some (k, 0, S, V 10, hs) ∧ FX7_release M x x2 = some (0, M 0, M 1, upd (M 2) 1 c)) ∨
    (∃ r S' hs' k' q' a' v10, FX6_release V T S hs x x2 = some (0, r, S', v10, hs') ∧ FX7_release M x x2 = some (r, a', k', q') ∧ q' 1 = 0 ∧ zGood (N + 1) (va_up V 10 v10) a' ∧ zHist (N + 1) S' hs' k' q') := by
  obtain ⟨⟨n, z, e, t, u, hR, hI, hH, hQ, he, hNN⟩, -⟩ := id hB
  unfold FX6_release FX7_release
  rcases both_held (x := x) (x2 := x2) hR hI hH with ⟨r, p, hr, hp, rfl, rfl, hb, hz, c1, c2⟩ | ⟨c1, c2⟩ | ⟨c1, c2⟩
  · obtain ⟨S', hs', k', q', e1, e2, e3, e4⟩ := sv hB
    obtain ⟨m, hm, em, g1, g2⟩ := rel_block hH hQ hr hp hz
    rw [c1, c2, Option.bind_some, Option.bind_some, if_pos rfl, zt0, e1, Option.bind_some, c_removeHolder hp, Option.bind_some, c_heldBy, Option.bind_some, e2, Option.bind_some, zdiv16 (by omega), zrem16 (by omega), zp2, m_rdr (va_up (va_up M 1 k') 2 q') hr (by omega), Option.bind_some, show (va_up (va_up M 1 k') 2 q') 0 (964 + 12 * r + (2 + p / 16)) = nI m from em, m_setRdr (va_up (va_up M 1 k') 2 q') hr (by omega), Option.bind_some, m_heldBy (M := va_up (va_up (va_up M 0 (upd ((va_up (va_up M 1 k') 2 q') 0) (964 + 12 * r + (2 + p / 16)) (nI m ^^^ ((1 : Int32) <<< (nI (p % 16) &&& 31))))) 1 k') 2 q') (v10 := upd (V 10) p (V 10 p &&& (((1 : Int32) <<< (nI r &&& 31)) ^^^ (-1)))) (v11 := V 11) (v12 := V 12) g1 hr, Option.bind_some]
    exact Or.inr ⟨_, S', hs', k', q', _, _, rfl, rfl, e4, ⟨n, z, e, t, u, zR_rd hR (fun i hi => zupd_n (by omega)) ⟨rfl, rfl, rfl, rfl, rfl, rfl, rfl, rfl, rfl, rfl, rfl, rfl, rfl, rfl⟩, zI_rd hI ⟨rfl, rfl, rfl, rfl, rfl, rfl, rfl, rfl, rfl, rfl, rfl, rfl, rfl, rfl⟩, g1, g2, by omega, iN_up hNN (by omega)⟩, e3⟩
  · rw [c1, c2, Option.bind_some, Option.bind_some, if_neg (by decide), zt1]
    exact Or.inl ⟨1, 1, Or.inl ⟨rfl, rfl⟩, rfl, rfl⟩
  · rw [c1, c2, Option.bind_some, Option.bind_some, if_neg (by decide), zt2]
    exact Or.inl ⟨4, 2, Or.inr ⟨rfl, rfl⟩, rfl, rfl⟩
/-- the mask of the stalled readers is 0: none is -/
theorem zor6 (p : Nat → Bool) : zor 6 p = 0 → ∀ r, r < 6 → p r = false := by
  have key : ∀ a b c d e f : Bool, ∀ q : Nat → Bool, q 0 = a → q 1 = b → q 2 = c → q 3 = d → q 4 = e → q 5 = f → zor 6 q = 0 → a = false ∧ b = false ∧ c = false ∧ d = false ∧ e = false ∧ f = false := by
    intro a b c d e f q h0 h1 h2 h3 h4 h5
    simp only [zor, h0, h1, h2, h3, h4, h5]
    cases a <;> cases b <;> cases c <;> cases d <;> cases e <;> cases f <;> decide
  intro h r hr
  obtain ⟨g0, g1, g2, g3, g4, g5⟩ := key _ _ _ _ _ _ p rfl rfl rfl rfl rfl rfl h
  rcases (show r = 0 ∨ r = 1 ∨ r = 2 ∨ r = 3 ∨ r = 4 ∨ r = 5 by omega) with rfl | rfl | rfl | rfl | rfl | rfl <;> assumption
theorem x_advance (hB : zBR N V S hs M) (hN : N < 50000) :
    (FX6_advance V T S hs = some (3, 0, S, V 16, hs) ∧ FX7_advance M = some (0, M 0, M 1, upd (M 2) 1 1)) ∨
    (∃ r S' hs' k' q' a' v16, FX6_advance V T S hs = some (0, r, S', v16, hs') ∧ FX7_advance M = some (r, a', k', q') ∧ q' 1 = 0 ∧ zGood (N + 1) (va_up V 16 v16) a' ∧ zHist (N + 1) S' hs' k' q') := by
  obtain ⟨⟨n, z, e, t, u, hR, hI, hH, hQ, he, hNN⟩, -⟩ := id hB
  have a3 : M 0 3 = V 16 1 := hR.1.2.2.2.1
  have a4 : M 0 4 = V 16 3 := hR.1.2.2.2.2.1
  unfold FX6_advance FX7_advance
  rw [c_stalledMask, Option.bind_some, m_blocking hH, Option.bind_some, a3, zt0, zt1]
  by_cases h : zor 6 (zstl (V 11) (V 12) (V 16 1)) = 0
  · obtain ⟨S', hs', k', q', e1, e2, e3, e4⟩ := sv hB
    rw [if_pos h, if_pos h, show FX6_checkState 1 = some 0 from rfl, Option.bind_some, if_pos rfl, e1, Option.bind_some, e2, Option.bind_some]
    unfold az_lt
    dsimp only
    have hst := zor6 _ h
    have m3 : M 0 (3 : Int32).toNatClampNeg + 1 = nI (e + 1) := by rw [show M 0 (3 : Int32).toNatClampNeg = nI e from m_a3 hR hI, zs]
    have v1 : V 16 1 + 1 = nI (e + 1) := by rw [hI.T.1, zs]
    rw [m3, v1, zupd_n (f := V 16) (j := 3) (by decide), show (3 : Int32).toNatClampNeg = 3 from rfl, show (4 : Int32).toNatClampNeg = 4 from rfl, show (5 : Int32).toNatClampNeg = 5 from rfl, zupd_n (f := M 0) (j := 4) (by decide), zupd_n (f := upd (M 0) 3 (nI (e + 1))) (j := 3) (by decide), zupd_s, zupd_n (f := upd (V 16) 1 (nI (e + 1))) (j := 1) (by decide), zupd_s, a4]
    have r1 := zR_num (j := 1) (i := 3) hR (by omega) (nI (e + 1))
    have r2 := zR_num (j := 2) (i := 5) r1 (by omega) (V 16 3)
    have i1 := zI_epoch hI (e' := e + 1) (by omega) (by omega)
    have i2 := zI_num i1 (j := 2) (by decide) (by decide) (V 16 3)
    refine Or.inr ⟨_, S', hs', k', q', _, _, rfl, rfl, e4, ⟨n, z, e + 1, t, u, zR_e r2 (zc17 rfl rfl rfl rfl rfl rfl rfl rfl rfl rfl rfl rfl rfl rfl rfl rfl rfl), zI_e i2 (zc17 rfl rfl rfl rfl rfl rfl rfl rfl rfl rfl rfl rfl rfl rfl rfl rfl rfl), zH_c hH (fun i h1 _ => by rw [zupd_n (by omega), zupd_n (by omega)]), ⟨fun r hr => ?_, hQ.2.1, fun k hk r hr hz => ?_⟩, by omega, ?_⟩, e3⟩
    · rcases hQ.1 r hr with ⟨g1, y, g2, g3, g4⟩ | g
      · have hs1 := hst r hr
        unfold zstl at hs1
        rw [decide_eq_false_iff_not] at hs1
        have hey : V 12 r = V 16 1 := Classical.not_not.mp (fun c => hs1 ⟨g1, c⟩)
        rw [g2, hI.T.1, zeq (by omega) (by have := hI.T.2.2.1; omega)] at hey
        exact Or.inl ⟨g1, y, g2, by omega, by omega⟩
      · exact Or.inr g
    · obtain ⟨g1, g2⟩ := hQ.2.2 k hk r hr hz
      refine ⟨g1, ?_⟩
      rcases g2 with g | g | ⟨g, w, y, w1, y1, wy, we⟩
      · exact Or.inl g
      · exact Or.inr (Or.inl g)
      · exact Or.inr (Or.inr ⟨g, w, y, w1, y1, wy, by omega⟩)
    · show iN (N + 1) (upd (upd (V 16) 1 (nI (e + 1))) 2 (V 16 3))
      unfold iN
      rw [zupd_n (by decide), zupd_n (by decide), zupd_n (by decide), zupd_n (by decide)]
      exact iN_up hNN (by omega)
  · rw [if_neg h, if_neg h, show FX6_checkState 0 = some 3 from rfl, Option.bind_some, if_neg (by decide)]
    exact Or.inl ⟨rfl, rfl⟩
theorem x_pass (hB : zBR N V S hs M) :
    (∃ k c, ((k = 2 ∧ c = 1) ∨ (k = 3 ∧ c = 2)) ∧ FX6_pass V T S hs x = some (k, 0, S, V 16, hs) ∧ FX7_pass M x = some (0, M 0, M 1, upd (M 2) 1 c)) ∨
    (∃ r S' hs' k' q' a' v16, FX6_pass V T S hs x = some (0, r, S', v16, hs') ∧ FX7_pass M x = some (r, a', k', q') ∧ q' 1 = 0 ∧ zGood (N + 1) (va_up V 16 v16) a' ∧ zHist (N + 1) S' hs' k' q') := by
  obtain ⟨⟨n, z, e, t, u, hR, hI, hH, hQ, he, hNN⟩, -⟩ := id hB
  have ht := hI.T.2.2.2
  have a4 : M 0 (4 : Int32).toNatClampNeg = V 16 3 := hR.1.2.2.2.2.1
  unfold FX6_pass FX7_pass
  rw [show FX7_isIn x.toInt64 (1 : Int64) (1000 : Int64) = some (if 1 ≤ x ∧ x ≤ nI 1000 then 1 else 0) from m_isIn x 1 (nI 1000), Option.bind_some, zb1, show FX6_isBetween x 1 1000 = some (if 1 ≤ x ∧ x ≤ nI 1000 then 1 else 0) from c_between x 1 (nI 1000), Option.bind_some, c_checkArgument, Option.bind_some, a4, zt0, zt1, zt2]
  by_cases h : 1 ≤ x ∧ x ≤ nI 1000
  · have h0 : (0 : Int32) ≤ x := by
      have := h.1
      rw [Int32.le_iff_toInt_le] at this ⊢
      have e1 : (1 : Int32).toInt = 1 := by decide
      have e0 : (0 : Int32).toInt = 0 := by decide
      omega
    obtain ⟨p, hp, rfl⟩ := (zrng (by omega)).mp ⟨h0, h.2⟩
    rw [if_pos h, if_pos h, if_pos (rfl : (0 : Nat) = 0), hI.T.2.1, zadd]
    by_cases hb : t + p ≤ 1000000
    · obtain ⟨S', hs', k', q', e1, e2, e3, e4⟩ := sv hB
      rw [if_neg (show ¬ (1000000 : Int32) < nI (t + p) by rw [show (1000000 : Int32) = nI 1000000 from rfl, zlt (by omega) (by omega)]; omega), if_pos (show nI (t + p) ≤ (1000000 : Int32) by rw [show (1000000 : Int32) = nI 1000000 from rfl, zle (by omega) (by omega)]; omega), show FX6_checkState 1 = some 0 from rfl, Option.bind_some, if_pos rfl, e1, Option.bind_some, e2, Option.bind_some]
      unfold az_lt
      dsimp only
      rw [show (4 : Int32).toNatClampNeg = 4 from rfl, zupd_s, zupd_s]
      refine Or.inr ⟨_, S', hs', k', q', _, _, rfl, rfl, e4, ⟨n, z, e, t + p, u, zR_num (j := 3) (i := 4) hR (by omega) _, zI_tick hI (by omega) hb, zH_c hH (fun i h1 _ => zupd_n (by omega)), hQ, by omega, ?_⟩, e3⟩
      show iN (N + 1) (upd (V 16) 3 (nI (t + p)))
      unfold iN
      rw [zupd_n (by decide), zupd_n (by decide)]
      exact iN_up hNN (by omega)
    · rw [if_pos (show (1000000 : Int32) < nI (t + p) by rw [show (1000000 : Int32) = nI 1000000 from rfl, zlt (by omega) (by omega)]; omega), if_neg (show ¬ nI (t + p) ≤ (1000000 : Int32) by rw [show (1000000 : Int32) = nI 1000000 from rfl, zle (by omega) (by omega)]; omega), show FX6_checkState 0 = some 3 from rfl, Option.bind_some, if_neg (by decide)]
      exact Or.inl ⟨3, 2, Or.inr ⟨rfl, rfl⟩, rfl, rfl⟩
  · rw [if_neg h, if_neg h, if_neg (by decide)]
    exact Or.inl ⟨2, 1, Or.inl ⟨rfl, rfl⟩, rfl, rfl⟩
end XN
